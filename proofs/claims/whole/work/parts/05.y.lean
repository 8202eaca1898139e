theorem ps_yP1 {post : Int32 → Prop} {p : Nat} (hp : p < 8) (h : post 1) : wpY_place post (nI p) :=
  br_f (nI_pos (by omega)) (br_f (nI_ge (b := 8) hp (by decide)) h)
theorem ps_yP0 {post : Int32 → Prop} {x : Int32} (hx : ¬ ∃ p, p < 8 ∧ x = nI p) (h : post 0) : wpY_place post x := by
  by_cases c : x < 0
  · exact br_t c h
  · obtain ⟨j, hj, rfl⟩ := nI_of c
    have q : ¬ j < 8 := fun q => hx ⟨j, q, rfl⟩
    exact br_f c (br_t (nI_le (a := 8) (by omega) hj) h)
section
variable {kd sz a b x y : Nat → Int32} {n : Int32} {D : List ps_E}
theorem ps_yO {post : Int32 → Prop} {p : Nat} {kind : Int32} (hp : p < 8) (hy : kd p = kind → post 1) (hn : ¬ kd p = kind → post 0) :
    wpY_holds post (n, kd, sz, a, b, x, y) (nI p) kind := by
  unfold wpY_holds
  refine ps_yP1 hp (br_f ps_10 ⟨ps_in8 hp, ?_⟩)
  rw [ps_cl8 hp]
  exact br_c hy hn
theorem ps_yO0 {post : Int32 → Prop} {z kind : Int32} (hx : ¬ ∃ p, p < 8 ∧ z = nI p) (h : post 0) :
    wpY_holds post (n, kd, sz, a, b, x, y) z kind := by
  unfold wpY_holds
  exact ps_yP0 hx (br_t rfl h)
theorem ps_yKl {post : Int32 → SY → Prop} {t : Nat} {a0 b0 : Nat → Int32} (ht : t < 8) (hD : D.length ≤ 48) (hd : ps_dr 100 x y D)
    (h : ∀ a' b', ps_wr (50 * t) a0 b0 a' b' D D.length → post (nI D.length) (nI D.length, kd, sz, a', b', x, y)) :
    ∀ (c k : Nat), k + c = D.length → ∀ a b, ps_wr (50 * t) a0 b0 a b D k → wY_keep_41 post (nI t) (nI D.length) (c + 1) (nI k) kd sz a b x y := by
  intro c
  induction c with
  | zero =>
    intro k e a b hw
    have q : k = D.length := by omega
    subst q
    exact br_t (nI_le (by omega) (by omega)) (h _ _ hw)
  | succ c ih =>
    intro k e a b hw
    have i1 : k < 50 := by omega
    have g := hd k (by omega) (by omega)
    refine br_f (nI_ge (by omega) (by omega)) ⟨pk_in k 100 (by omega), ps_inY ht i1, fun y' ey => ⟨pk_in k 100 (by omega), ps_inY ht i1, fun z ez => nm_r (nI_1 k) ?_⟩⟩
    rw [ps_clY ht i1, ps_cl (by omega)] at ey ez
    subst ey ez
    exact ih (k + 1) (by omega) _ _ (ps_wr_1 hw g.1 g.2)
theorem ps_yV {post : Int32 → SY → Prop} {kind : Int32} {cap t : Nat} {L : Nat → List ps_E} (hc : (kind = 1 ∧ cap = 24) ∨ (¬ kind = 1 ∧ cap = 48)) (ht : t < 8) (hR : ps_R 50 a b L) (hl : ∀ p, p < 8 → (L p).length ≤ 48) (hd : ps_dr 100 x y D) (hD : D.length < 1000)
    (h : ∀ r u', ps_out ps_Y kd sz L kind cap t D r u' → post r u') : wpY_keep post (nI D.length, kd, sz, a, b, x, y) kind (nI t) := by
  have hcap : cap ≤ 48 := by omega
  have g : wY_keep_16 post kind (nI t) (nI cap) (nI D.length) (nI D.length) kd sz a b x y := by
    unfold wY_keep_16
    refine pk_le D.length cap (fun c => ?_) (fun c => ?_)
    · refine ⟨ps_in8 ht, fun y' ey => ⟨ps_in8 ht, fun z ez => ?_⟩⟩
      rw [ps_cl8 ht] at ey ez
      subst ey ez
      exact ⟨D.length + 1, ps_yKl ht (by omega) hd (fun a' b' hw => h _ _ (Or.inl ⟨c, rfl, _, _, _, _, _, rfl, ps_R_up hR (fun p hp => Nat.le_trans (hl p hp) (by decide)) (by omega) hw⟩)) D.length 0 (Nat.zero_add _) a b ps_wr_0⟩
    · exact h _ _ (Or.inr ⟨c, rfl, _, _, _, _, _, rfl, hR⟩)
  rcases hc with ⟨q, rfl⟩ | ⟨q, rfl⟩
  · exact br_t q g
  · exact br_f q g
/-- the same, where the method hands the state on -/
theorem ps_yW {post : Int32 → SY → Prop} {kind : Int32} {cap t : Nat} {L : Nat → List ps_E} (hc : (kind = 1 ∧ cap = 24) ∨ (¬ kind = 1 ∧ cap = 48)) (ht : t < 8) (hR : ps_R 50 a b L) (hl : ∀ p, p < 8 → (L p).length ≤ 48) (hd : ps_dr 100 x y D) (hD : D.length < 1000)
    (h : ∀ r u', ps_out ps_Y kd sz L kind cap t D r u' → post r u') : wpY_keep (fun r u => match u with | (a, b, c, d, e, f, g) => post r (a, b, c, d, e, f, g)) (nI D.length, kd, sz, a, b, x, y) kind (nI t) :=
  ps_yV hc ht hR hl hd hD (fun r u' o => by obtain ⟨_, _, _, _, _, _, _⟩ := u'; exact h _ _ o)
theorem ps_yA {post : SY → Prop} {v : Int32} (hd : ps_dr 100 x y D) (hl : D.length < 100)
    (h : ∀ x' y', ps_dr 100 x' y' (D ++ [(v, 0)]) → post (nI (D ++ [(v, 0)]).length, kd, sz, a, b, x', y')) : wpY_add post (nI D.length, kd, sz, a, b, x, y) v := by
  have e : nI D.length + 1 = nI (D ++ [(v, (0 : Int32))]).length := by rw [ps_len1]; exact nI_1 _
  refine ⟨pk_in D.length 100 hl, fun y' ey => ⟨pk_in D.length 100 hl, fun z ez => nm_r e ?_⟩⟩
  rw [ps_cl (by omega)] at ey ez
  subst ey ez
  exact h _ _ (ps_dr_a hd)
theorem ps_yHl {post : SY → Prop} {s : Nat} {k v : Int32} (hs : s ≤ D.length) (hD : D.length < 99)
    (h : ∀ x' y', ps_dr 100 x' y' (D.take s ++ (k, v) :: D.drop s) → post (nI (D.length + 1), kd, sz, a, b, x', y')) :
    ∀ c, s + c ≤ D.length → ∀ x y, ps_sh x y D (s + c) → wY_set_50 post k v (nI s) (nI D.length) (c + 1) (nI (s + c)) kd sz a b x y := by
  intro c
  induction c with
  | zero =>
    intro e x y hh
    refine br_t (nI_le (by omega) (by omega)) (nm_r (nI_1 _) ?_)
    refine ⟨pk_in s 100 (by omega), fun y' ey => ⟨pk_in s 100 (by omega), fun z ez => ?_⟩⟩
    rw [ps_cl (by omega)] at ey ez
    subst ey ez
    exact h _ _ (ps_sh_e hh hs)
  | succ c ih =>
    intro e x y hh
    have z : nI (s + (c + 1)) - 1 = nI (s + c) := nI_pred (s + c)
    have z2 : nI (s + (c + 1)) + (-1) = nI (s + c) := pk_m1 (s + c)
    refine br_f (nI_ge (by omega) (by omega)) ?_
    rw [z, ps_cl (i := s + c) (by omega), ps_cl (i := s + (c + 1)) (by omega)]
    refine ⟨pk_in (s + c) 100 (by omega), pk_in (s + (c + 1)) 100 (by omega), fun y' ey => ⟨pk_in (s + c) 100 (by omega), pk_in (s + (c + 1)) 100 (by omega), fun z' ez => nm_r z2 ?_⟩⟩
    subst ey ez
    exact ih (by omega) _ _ (ps_sh_1 (n := s + c) hh (by omega) rfl rfl)
theorem ps_yZ {post : SY → Prop} {k v : Int32} (hd : ps_dr 100 x y D) (hD : D.length < 99)
    (h : ∀ x' y', ps_dr 100 x' y' (ps_ins k v D) → post (nI (ps_ins k v D).length, kd, sz, a, b, x', y')) :
    wY_set_26 post k v (nI (ps_kb k D)) (nI D.length) kd sz a b x y := by
  have l := ps_kb_le k D
  have no : ¬ ps_hit k D → ∃ n50 : Nat, wY_set_50 post k v (nI (ps_kb k D)) (nI D.length) n50 (nI D.length) kd sz a b x y := fun q => by
    have e := ps_ins_n k v D q
    have el : (ps_ins k v D).length = D.length + 1 := by
      rw [e, List.length_append, List.length_take, List.length_cons, List.length_drop]; omega
    rw [el, e] at h
    have w := ps_yHl (post := post) (kd := kd) (sz := sz) (a := a) (b := b) (k := k) (v := v) l hD h (D.length - ps_kb k D) (by omega) x y
    rw [show ps_kb k D + (D.length - ps_kb k D) = D.length by omega] at w
    exact ⟨_, w (ps_sh_0 hd (by omega))⟩
  refine pk_eq (ps_kb k D) D.length (fun c => no (fun q => absurd q.1 (by omega))) (fun c => ?_)
  have i1 : ps_kb k D < D.length := by omega
  have g := hd _ i1 (by omega)
  refine ⟨pk_in (ps_kb k D) 100 (by omega), ?_⟩
  rw [ps_cl (i := ps_kb k D) (by omega), g.1]
  refine br_c (fun q => ?_) (fun q => no (fun w => q w.2))
  have e := ps_ins_y k v D ⟨i1, q⟩
  have el : (ps_ins k v D).length = D.length := by
    rw [e, List.length_append, List.length_take, List.length_cons, List.length_drop]; omega
  rw [el, e] at h
  refine ⟨pk_in (ps_kb k D) 100 (by omega), fun y' ey => ⟨pk_in (ps_kb k D) 100 (by omega), fun z ez => ?_⟩⟩
  rw [ps_cl (by omega)] at ey ez
  subst ey ez
  exact h _ _ (ps_dr_w hd i1 ps_c_s (fun j hj => ⟨pk_un hj, pk_un hj⟩))
theorem ps_ySl {post : SY → Prop} {k v : Int32} (hd : ps_dr 100 x y D) (hD : D.length < 99) (h : wY_set_26 post k v (nI (ps_kb k D)) (nI D.length) kd sz a b x y) :
    ∀ (c s : Nat), s + c = D.length → (∀ i, i < s → (ps_at D i).1 < k) → wY_set_2 post k v (nI D.length) kd sz a b x y (c + 1) (nI s) := by
  intro c
  induction c with
  | zero =>
    intro s e hi
    have z : ps_kb k D = s := ps_kb_un k D s (by omega) hi (fun q => absurd q (by omega))
    rw [z] at h
    exact br_t (nI_le (by omega) (by omega)) h
  | succ c ih =>
    intro s e hi
    have r := hd s (by omega) (by omega)
    refine br_f (nI_ge (by omega) (by omega)) ⟨pk_in s 100 (by omega), ?_⟩
    rw [ps_cl (i := s) (by omega), r.1]
    by_cases q : k ≤ (ps_at D s).1
    · have z : ps_kb k D = s := ps_kb_un k D s (by omega) hi (fun _ => Int32.not_lt.mpr q)
      rw [z] at h
      exact br_t q h
    · refine br_f q (nm_r (nI_1 s) (ih (s + 1) (by omega) (fun i hi' => ?_)))
      by_cases w : i = s
      · rw [w]; exact Int32.not_le.mp q
      · exact hi i (by omega)
theorem ps_yS {post : SY → Prop} {k v : Int32} (hd : ps_dr 100 x y D) (hD : D.length < 99)
    (h : ∀ x' y', ps_dr 100 x' y' (ps_ins k v D) → post (nI (ps_ins k v D).length, kd, sz, a, b, x', y')) : wpY_set post (nI D.length, kd, sz, a, b, x, y) k v :=
  ⟨D.length + 1, ps_ySl hd hD (ps_yZ hd hD h) D.length 0 (Nat.zero_add _) (fun i hi => absurd hi (Nat.not_lt_zero i))⟩
theorem ps_yFl {post : Int32 → Prop} {p : Nat} {L : List ps_E} {k : Int32} (hp : p < 8) (hs : sz p = nI L.length) (hr : ps_row a b (50 * p) L) (hL : L.length ≤ 48)
    (hy : ∀ i, i < L.length → ps_get k L = some (ps_at L i).2 → post (nI i)) (hn : ps_get k L = none → post (-1)) :
    ∀ (c s : Nat), s + c = L.length → (∀ i, i < s → ¬ (ps_at L i).1 = k) → wY_find_2 post (nI p) k n kd sz a b x y (c + 1) (nI s) := by
  intro c
  induction c with
  | zero =>
    intro s e hi
    refine ⟨ps_in8 hp, ?_⟩
    rw [ps_cl8 hp, hs]
    exact br_t (nI_le (by omega) (by omega)) (hn (ps_get_all k L (fun j hj => hi j (by omega))))
  | succ c ih =>
    intro s e hi
    have i1 : s < 50 := by omega
    have r := hr s (by omega)
    refine ⟨ps_in8 hp, ?_⟩
    rw [ps_cl8 hp, hs]
    refine br_f (nI_ge (by omega) (by omega)) ⟨ps_inY hp i1, ?_⟩
    rw [ps_clY hp i1, r.1]
    refine br_c (fun q => hy s (by omega) (ps_get_fst k L s (by omega) hi q)) (fun q => nm_r (nI_1 s) (ih (s + 1) (by omega) (fun i hi' => ?_)))
    by_cases w : i = s
    · rw [w]; exact q
    · exact hi i (by omega)
theorem ps_yF {post : Int32 → Prop} {p : Nat} {L : List ps_E} {k : Int32} (hp : p < 8) (hs : sz p = nI L.length) (hr : ps_row a b (50 * p) L) (hL : L.length ≤ 48)
    (hy : ∀ i, i < L.length → ps_get k L = some (ps_at L i).2 → post (nI i)) (hn : ps_get k L = none → post (-1)) : wpY_find post (n, kd, sz, a, b, x, y) (nI p) k :=
  ⟨L.length + 1, ps_yFl hp hs hr hL hy hn L.length 0 (Nat.zero_add _) (fun i hi => absurd hi (Nat.not_lt_zero i))⟩
theorem ps_yTl {post : SY → Prop} {p : Nat} {L : List ps_E} (hp : p < 8) (hs : sz p = nI L.length) (hr : ps_row a b (50 * p) L) (hL : L.length ≤ 48)
    (h : ∀ x' y', ps_dr 100 x' y' L → post (nI L.length, kd, sz, a, b, x', y')) :
    ∀ (c s : Nat), s + c = L.length → ∀ x y, (∀ i, i < s → ps_c x y i (ps_at L i)) → wY_take_7 post (nI p) 0 (c + 1) (nI s) kd sz a b x y := by
  intro c
  induction c with
  | zero =>
    intro s e x y hi
    refine ⟨ps_in8 hp, ?_⟩
    rw [ps_cl8 hp, hs]
    exact br_t (nI_le (by omega) (by omega)) ⟨ps_in8 hp, nm_e (h _ _ (fun i hd _ => hi i (by omega)))⟩
  | succ c ih =>
    intro s e x y hi
    have i1 : s < 50 := by omega
    have r := hr s (by omega)
    refine ⟨ps_in8 hp, ?_⟩
    rw [ps_cl8 hp, hs]
    refine br_f (nI_ge (by omega) (by omega)) ⟨ps_inY hp i1, pk_in s 100 (by omega), fun y' ey => ⟨ps_inY hp i1, pk_in s 100 (by omega), fun z ez => nm_r (nI_1 s) ?_⟩⟩
    rw [ps_clY hp i1, ps_cl (i := s) (by omega)] at ey ez
    subst ey ez
    refine ih (s + 1) (by omega) _ _ (fun i hi' => ?_)
    by_cases w : i = s
    · subst w
      exact ⟨pk_us.trans r.1, pk_us.trans r.2⟩
    · exact ps_c_n w (hi i (by omega))
theorem ps_yT {post : SY → Prop} {p : Nat} {L : List ps_E} (hp : p < 8) (hs : sz p = nI L.length) (hr : ps_row a b (50 * p) L) (hL : L.length ≤ 48)
    (h : ∀ x' y', ps_dr 100 x' y' L → post (nI L.length, kd, sz, a, b, x', y')) : wpY_take post (n, kd, sz, a, b, x, y) (nI p) :=
  ⟨L.length + 1, ps_yTl hp hs hr hL h L.length 0 (Nat.zero_add _) x y (fun i hi => absurd hi (Nat.not_lt_zero i))⟩
end
