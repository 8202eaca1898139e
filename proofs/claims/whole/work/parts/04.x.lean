theorem ps_10 : ¬ (1 : Int32) = 0 := by decide
theorem ps_cl {i : Nat} (h : i < 1000) : (nI i).toNatClampNeg = i := nI_clamp (by omega)
theorem ps_cl8 {p : Nat} (h : p < 8) : (nI p).toNatClampNeg = p := nI_clamp (by omega)
theorem ps_in8 {p : Nat} (h : p < 8) : vp_in (nI p) 8 := vp_in_nI h (by decide)
theorem ps_inX {p i : Nat} (hp : p < 8) (hi : i < 48) : vp_in (nI (48 * p) + nI i) 384 := by
  rw [nI_add]; exact vp_in_nI (by omega) (by decide)
theorem ps_clX {p i : Nat} (hp : p < 8) (hi : i < 48) : (nI (48 * p) + nI i).toNatClampNeg = 48 * p + i := by
  rw [nI_add]; exact nI_clamp (by omega)
theorem ps_ixY (p i : Nat) : (50 : Int32) * nI p + nI i = nI (50 * p + i) := by
  have e : (50 : Int32) * nI p = nI (50 * p) := pk_mul 50 p
  rw [e, nI_add]
theorem ps_inY {p i : Nat} (hp : p < 8) (hi : i < 50) : vp_in ((50 : Int32) * nI p + nI i) 400 := by
  rw [ps_ixY]; exact vp_in_nI (by omega) (by decide)
theorem ps_clY {p i : Nat} (hp : p < 8) (hi : i < 50) : ((50 : Int32) * nI p + nI i).toNatClampNeg = 50 * p + i := by
  rw [ps_ixY]; exact nI_clamp (by omega)

theorem ps_xP1 {post : Int32 → Prop} {u : SX} {p : Nat} (hp : p < 8) (h : post 1) : wpX_isPlace post u (nI p) := by
  obtain ⟨ds, kd, sz, it, vl, di, dv⟩ := u
  exact br_f (nI_pos (by omega)) (br_f (nI_ge (b := 8) hp (by decide)) h)
theorem ps_xP0 {post : Int32 → Prop} {u : SX} {x : Int32} (hx : ¬ ∃ p, p < 8 ∧ x = nI p) (h : post 0) : wpX_isPlace post u x := by
  obtain ⟨ds, kd, sz, it, vl, di, dv⟩ := u
  by_cases c : x < 0
  · exact br_t c h
  · obtain ⟨j, hj, rfl⟩ := nI_of c
    have q : ¬ j < 8 := fun q => hx ⟨j, q, rfl⟩
    exact br_f c (br_t (nI_le (a := 8) (by omega) hj) h)
theorem ps_xR {post : Int32 → Prop} {u : SX} {p : Nat} (h : post (nI (48 * p))) : wpX_rowOf post u (nI p) := by
  obtain ⟨ds, kd, sz, it, vl, di, dv⟩ := u
  have e : nI p * 48 = nI (48 * p) := by rw [Nat.mul_comm 48 p]; exact pk_mul p 48
  show post (nI p * 48)
  rw [e]; exact h
section
variable {kd sz it vl di dv : Nat → Int32} {ds : Int32} {D : List ps_E}
theorem ps_xS {post : SX → Prop} (h : post (nI ([] : List ps_E).length, kd, sz, it, vl, di, dv)) : wpX_startDraft post (ds, kd, sz, it, vl, di, dv) := h
theorem ps_xD {post : SX → Prop} {i v : Int32} (hd : ps_dr 48 di dv D) (hl : D.length < 1000)
    (h : ∀ di' dv', ps_dr 48 di' dv' (D ++ [(i, v)]) → post (nI (D ++ [(i, v)]).length, kd, sz, it, vl, di', dv')) : wpX_draft post (nI D.length, kd, sz, it, vl, di, dv) i v := by
  have e : nI D.length + 1 = nI (D ++ [(i, v)]).length := by rw [ps_len1]; exact nI_1 _
  refine pk_le 48 D.length (fun c => nm_r e (h _ _ (ps_dr_o hd c))) (fun c => ?_)
  refine ⟨pk_in D.length 48 c, fun y ey => ⟨pk_in D.length 48 c, fun z ez => nm_r e ?_⟩⟩
  rw [ps_cl hl] at ey ez
  subst ey ez
  exact h _ _ (ps_dr_a hd)
theorem ps_xRl {post : SX → Prop} {p s m : Nat} {L : List ps_E} (hp : p < 8) (hr : ps_row it vl (48 * p) L) (hm : s + m ≤ L.length) (hL : L.length ≤ 48) (hD : D.length + m < 1000)
    (h : ∀ di' dv', ps_dr 48 di' dv' (ps_aq D (ps_g L s) m) → post (nI (ps_aq D (ps_g L s) m).length, kd, sz, it, vl, di', dv')) :
    ∀ (c k : Nat), k + c = m → ∀ di dv, ps_dr 48 di dv (ps_aq D (ps_g L s) k) → wX_draftRange_10 post (nI (s + m)) (nI (48 * p)) (c + 1) (nI (s + k)) (nI (ps_aq D (ps_g L s) k).length) kd sz it vl di dv := by
  intro c
  induction c with
  | zero =>
    intro k e di dv hd
    have q : k = m := by omega
    subst q
    exact br_t (nI_le (by omega) (by omega)) (h _ _ hd)
  | succ c ih =>
    intro k e di dv hd
    have l := ps_aq_g D L s k
    have i1 : s + k < 48 := by omega
    have r := hr (s + k) (by omega)
    refine br_f (nI_ge (by omega) (by omega)) ⟨ps_inX hp i1, ps_inX hp i1, ?_⟩
    rw [ps_clX hp i1, r.1, r.2]
    exact ps_xD hd (by omega) (fun di' dv' hd' => nm_r (nI_1 _) (ih (k + 1) (by omega) di' dv' hd'))
theorem ps_xG {post : SX → Prop} {p s e : Nat} {L : List ps_E} (m : Nat) (hp : p < 8) (hr : ps_row it vl (48 * p) L) (hm : s + m = e) (he : e ≤ L.length) (hL : L.length ≤ 48) (hD : D.length + m < 1000) (hd : ps_dr 48 di dv D)
    (h : ∀ di' dv', ps_dr 48 di' dv' (ps_aq D (ps_g L s) m) → post (nI (ps_aq D (ps_g L s) m).length, kd, sz, it, vl, di', dv')) :
    wpX_draftRange post (nI D.length, kd, sz, it, vl, di, dv) (nI p) (nI s) (nI e) := by
  subst hm
  unfold wpX_draftRange
  exact ps_xR ⟨m + 1, ps_xRl hp hr he hL hD h m 0 (Nat.zero_add m) di dv hd⟩
theorem ps_xSl {post : Int32 → SX → Prop} {t : Nat} {kind : Int32} {it0 vl0 : Nat → Int32} (ht : t < 8) (hD : D.length ≤ 48) (hd : ps_dr 48 di dv D)
    (h : ∀ it' vl', ps_wr (48 * t) it0 vl0 it' vl' D D.length → post (nI D.length) (ds, upd kd t kind, upd sz t (nI D.length), it', vl', di, dv)) :
    ∀ (c k : Nat), k + c = D.length → ∀ it vl, ps_wr (48 * t) it0 vl0 it vl D k → wX_shelve_34 post kind (nI t) (nI D.length) (nI (48 * t)) ds (c + 1) (nI k) kd sz it vl di dv := by
  intro c
  induction c with
  | zero =>
    intro k e it vl hw
    have q : k = D.length := by omega
    subst q
    refine br_t (nI_le (by omega) (by omega)) ⟨ps_in8 ht, fun y ey => ⟨ps_in8 ht, fun z ez => ?_⟩⟩
    rw [ps_cl8 ht] at ey ez
    subst ey ez
    exact h _ _ hw
  | succ c ih =>
    intro k e it vl hw
    have i1 : k < 48 := by omega
    have g := hd k (by omega) i1
    refine br_f (nI_ge (by omega) (by omega)) ⟨pk_in k 48 i1, ps_inX ht i1, fun y ey => ⟨pk_in k 48 i1, ps_inX ht i1, fun z ez => nm_r (nI_1 k) ?_⟩⟩
    rw [ps_clX ht i1, ps_cl (by omega)] at ey ez
    subst ey ez
    exact ih (k + 1) (by omega) _ _ (ps_wr_1 hw g.1 g.2)
theorem ps_xV {post : Int32 → SX → Prop} {kind : Int32} {cap t : Nat} {L : Nat → List ps_E} (hc : (kind = 1 ∧ cap = 24) ∨ (¬ kind = 1 ∧ cap = 48)) (ht : t < 8) (hR : ps_R 48 it vl L) (hl : ∀ p, p < 8 → (L p).length ≤ 48) (hd : ps_dr 48 di dv D) (hD : D.length < 1000)
    (h : ∀ r u', ps_out ps_X kd sz L kind cap t D r u' → post r u') : wpX_shelve post (nI D.length, kd, sz, it, vl, di, dv) kind (nI t) := by
  have hcap : cap ≤ 48 := by omega
  have g : wX_shelve_18 post kind (nI t) (nI D.length) (nI cap) (nI D.length) (nI D.length) kd sz it vl di dv := by
    unfold wX_shelve_18
    refine pk_le D.length cap (fun c => ?_) (fun c => ?_)
    · exact ps_xR ⟨D.length + 1, ps_xSl ht (by omega) hd (fun it' vl' hw => h _ _ (Or.inl ⟨c, rfl, _, _, _, _, _, rfl, ps_R_up hR hl (by omega) hw⟩)) D.length 0 (Nat.zero_add _) it vl ps_wr_0⟩
    · exact h _ _ (Or.inr ⟨c, rfl, _, _, _, _, _, rfl, hR⟩)
  rcases hc with ⟨a, rfl⟩ | ⟨a, rfl⟩
  · exact br_t a g
  · exact br_f a g
/-- the same, where the method hands the state on -/
theorem ps_xW {post : Int32 → SX → Prop} {kind : Int32} {cap t : Nat} {L : Nat → List ps_E} (hc : (kind = 1 ∧ cap = 24) ∨ (¬ kind = 1 ∧ cap = 48)) (ht : t < 8) (hR : ps_R 48 it vl L) (hl : ∀ p, p < 8 → (L p).length ≤ 48) (hd : ps_dr 48 di dv D) (hD : D.length < 1000)
    (h : ∀ r u', ps_out ps_X kd sz L kind cap t D r u' → post r u') : wpX_shelve (fun r u => match u with | (a, b, c, d, e, f, g) => post r (a, b, c, d, e, f, g)) (nI D.length, kd, sz, it, vl, di, dv) kind (nI t) :=
  ps_xV hc ht hR hl hd hD (fun r u' o => by obtain ⟨_, _, _, _, _, _, _⟩ := u'; exact h _ _ o)
theorem ps_xKl {post : Int32 → Prop} {p : Nat} {L : List ps_E} {k : Int32} (hp : p < 8) (hr : ps_row it vl (48 * p) L) (hL : L.length ≤ 48) (h : post (nI (ps_kb k L))) :
    ∀ (c s : Nat), s + c = L.length → (∀ i, i < s → (ps_at L i).1 < k) → wX_keysBelow__items_3 post (nI (48 * p)) (nI L.length) k ds kd sz it vl di dv (c + 1) (nI s) := by
  intro c
  induction c with
  | zero =>
    intro s e hi
    have z : ps_kb k L = s := ps_kb_un k L s (by omega) hi (fun q => absurd q (by omega))
    rw [z] at h
    exact br_t (nI_le (by omega) (by omega)) h
  | succ c ih =>
    intro s e hi
    have i1 : s < 48 := by omega
    have r := hr s (by omega)
    refine br_f (nI_ge (by omega) (by omega)) ⟨ps_inX hp i1, ?_⟩
    rw [ps_clX hp i1, r.1]
    by_cases q : k ≤ (ps_at L s).1
    · have z : ps_kb k L = s := ps_kb_un k L s (by omega) hi (fun _ => Int32.not_lt.mpr q)
      rw [z] at h
      exact br_t q h
    · refine br_f q (nm_r (nI_1 s) (ih (s + 1) (by omega) (fun i hi' => ?_)))
      by_cases w : i = s
      · rw [w]; exact Int32.not_le.mp q
      · exact hi i (by omega)
theorem ps_xK {post : Int32 → Prop} {p : Nat} {L : List ps_E} {k : Int32} (hp : p < 8) (hr : ps_row it vl (48 * p) L) (hL : L.length ≤ 48) (h : post (nI (ps_kb k L))) :
    wpX_keysBelow__items post (ds, kd, sz, it, vl, di, dv) (nI (48 * p)) (nI L.length) k :=
  ⟨L.length + 1, ps_xKl hp hr hL h L.length 0 (Nat.zero_add _) (fun i hi => absurd hi (Nat.not_lt_zero i))⟩
theorem ps_xJl {post : Int32 → Prop} {k : Int32} (hd : ps_dr 48 di dv D) (hD : D.length ≤ 48) (h : post (nI (ps_kb k D))) :
    ∀ (c s : Nat), s + c = D.length → (∀ i, i < s → (ps_at D i).1 < k) → wX_keysBelow__draftItems_3 post 0 (nI D.length) k ds kd sz it vl di dv (c + 1) (nI s) := by
  intro c
  induction c with
  | zero =>
    intro s e hi
    have z : ps_kb k D = s := ps_kb_un k D s (by omega) hi (fun q => absurd q (by omega))
    rw [z] at h
    exact br_t (nI_le (by omega) (by omega)) h
  | succ c ih =>
    intro s e hi
    have i1 : s < 48 := by omega
    have r := hd s (by omega) i1
    have z0 : (0 : Int32) + nI s = nI s := Int32.zero_add _
    refine br_f (nI_ge (by omega) (by omega)) ?_
    rw [z0, ps_cl (by omega), r.1]
    refine ⟨pk_in s 48 i1, ?_⟩
    by_cases q : k ≤ (ps_at D s).1
    · have z : ps_kb k D = s := ps_kb_un k D s (by omega) hi (fun _ => Int32.not_lt.mpr q)
      rw [z] at h
      exact br_t q h
    · refine br_f q (nm_r (nI_1 s) (ih (s + 1) (by omega) (fun i hi' => ?_)))
      by_cases w : i = s
      · rw [w]; exact Int32.not_le.mp q
      · exact hi i (by omega)
theorem ps_xJ {post : Int32 → Prop} {k : Int32} (hd : ps_dr 48 di dv D) (hD : D.length ≤ 48) (h : post (nI (ps_kb k D))) :
    wpX_keysBelow__draftItems post (ds, kd, sz, it, vl, di, dv) 0 (nI D.length) k :=
  ⟨D.length + 1, ps_xJl hd hD h D.length 0 (Nat.zero_add _) (fun i hi => absurd hi (Nat.not_lt_zero i))⟩
theorem ps_xH {post : Int32 → Prop} {p : Nat} {L : List ps_E} {k : Int32} (hp : p < 8) (hs : sz p = nI L.length) (hr : ps_row it vl (48 * p) L) (hL : L.length ≤ 48) (hy : ps_hit k L → post 1) (hn : ¬ ps_hit k L → post 0) :
    wpX_hasKeyAt post (ds, kd, sz, it, vl, di, dv) (nI p) (nI (ps_kb k L)) k := by
  have b := ps_kb_le k L
  refine ⟨ps_in8 hp, ?_⟩
  rw [ps_cl8 hp, hs]
  refine pk_le L.length (ps_kb k L) (fun c => hn (fun q => absurd q.1 (by omega))) (fun c => ?_)
  refine ps_xR ⟨ps_inX hp (by omega), ?_⟩
  rw [ps_clX hp (by omega), (hr _ c).1]
  exact br_c (fun q => hy ⟨c, q⟩) (fun q => hn (fun z => q z.2))
theorem ps_xO {post : Int32 → Prop} {p : Nat} {kind : Int32} (hp : p < 8) (hy : kd p = kind → post 1) (hn : ¬ kd p = kind → post 0) :
    wpX_holds post (ds, kd, sz, it, vl, di, dv) (nI p) kind := by
  unfold wpX_holds
  refine ps_xP1 hp (br_f ps_10 ⟨ps_in8 hp, ?_⟩)
  rw [ps_cl8 hp]
  exact br_c hy hn
theorem ps_xO0 {post : Int32 → Prop} {x kind : Int32} (hx : ¬ ∃ p, p < 8 ∧ x = nI p) (h : post 0) :
    wpX_holds post (ds, kd, sz, it, vl, di, dv) x kind := by
  unfold wpX_holds
  exact ps_xP0 hx (br_t rfl h)
end
