section
variable {kd sz a b x y : Nat → Int32} {n : Int32} {L : Nat → List ps_E} {f t : Nat} {post : Int32 → SY → Prop}
theorem ps_ymake {kind : Int32} (hK : ps_K kd sz L) (hR : ps_R 50 a b L) (ht : t < 8) (h0 : ¬ kind < 0) (h2 : kind ≤ 2)
    (h : ∀ r u', ps_out ps_Y kd sz L kind (if kind = 1 then 24 else 48) t [] r u' → post r u') : wpY_make post (n, kd, sz, a, b, x, y) (nI t) kind := by
  unfold wpY_make
  refine ps_yP1 ht (br_f ps_10 (br_f h0 (br_t h2 ⟨ps_in8 ht, fun y' ey => ⟨ps_in8 ht, fun z ez => ?_⟩⟩)))
  rw [ps_cl8 ht] at ey ez
  subst ey ez
  exact h _ _ (Or.inl ⟨Nat.zero_le _, rfl, _, _, _, _, _, rfl, ps_R_up hR (fun p hp => Nat.le_trans (ps_K_le hK p hp) (by decide)) (Nat.zero_le _) ps_wr_0⟩)
theorem ps_ycopy (hK : ps_K kd sz L) (hR : ps_R 50 a b L) (hf : f < 8) (ht : t < 8) (h0 : ¬ kd f = 0)
    (h : ∀ r u', ps_out ps_Y kd sz L (kd f) (if kd f = 1 then 24 else 48) t (L f) r u' → post r u') : wpY_copy post (n, kd, sz, a, b, x, y) (nI f) (nI t) := by
  have hL := ps_K_le hK f hf
  unfold wpY_copy
  refine ps_yP1 hf (br_f ps_10 (ps_yP1 ht (br_f ps_10 ⟨ps_in8 hf, ?_⟩)))
  rw [ps_cl8 hf]
  refine br_f h0 (ps_yT hf (hK f hf).1 (hR f hf) hL (fun x' y' hd => ⟨ps_in8 hf, ?_⟩))
  exact ps_yV (ps_hc _) ht hR (ps_K_le hK) hd (by omega) (fun r u' o => by obtain ⟨_, _, _, _, _, _, _⟩ := u'; exact h _ _ o)
theorem ps_yput {k v : Int32} (hK : ps_K kd sz L) (hR : ps_R 50 a b L) (hf : f < 8) (ht : t < 8) (h1 : kd f = 1)
    (h : ∀ r u', ps_out ps_Y kd sz L 1 24 t (ps_ins k v (L f)) r u' → post r u') : wpY_put post (n, kd, sz, a, b, x, y) (nI f) k v (nI t) := by
  have hL := ps_K_le hK f hf
  have l := ps_ins_len k v (L f)
  unfold wpY_put
  refine ps_yP1 hf (br_f ps_10 (ps_yP1 ht (br_f ps_10 ⟨ps_in8 hf, ?_⟩)))
  rw [ps_cl8 hf]
  refine br_t h1 (ps_yT hf (hK f hf).1 (hR f hf) hL (fun x' y' hd => ?_))
  refine ps_yS hd (by omega) (fun x2 y2 hd2 => ?_)
  exact ps_yV (Or.inl ⟨rfl, rfl⟩) ht hR (ps_K_le hK) hd2 (by omega) (fun r u' o => by obtain ⟨_, _, _, _, _, _, _⟩ := u'; exact h _ _ o)
theorem ps_fo_tk (phi : Int32 → Int32 → Option Int32) (D M : List ps_E) (i : Nat) : (ps_fo phi D (M.take i)).length ≤ D.length + i := by
  have h := ps_fo_len phi (M.take i) D
  have g := List.length_take_le i M
  omega
theorem ps_yrl {k : Int32} (hK : ps_K kd sz L) (hR : ps_R 50 a b L) (hf : f < 8) (ht : t < 8)
    (h : ∀ r u', ps_out ps_Y kd sz L 1 24 t (ps_fo (ps_prm k) [] (L f)) r u' → post r u') :
    ∀ (c s : Nat), s + c = (L f).length → ∀ x y, ps_dr 100 x y (ps_fo (ps_prm k) [] ((L f).take s)) →
      wY_remove_37 post (nI f) k (nI t) (c + 1) (nI s) (nI (ps_fo (ps_prm k) [] ((L f).take s)).length) kd sz a b x y := by
  have hL := ps_K_le hK f hf
  have hz := (hK f hf).1
  intro c
  induction c with
  | zero =>
    intro s e x y hd
    have q : s = (L f).length := by omega
    have l := ps_fo_tk (ps_prm k) [] (L f) s
    rw [List.length_nil] at l
    refine ⟨ps_in8 hf, ?_⟩
    rw [ps_cl8 hf, hz]
    refine br_t (nI_le (by omega) (by omega)) ?_
    have tk : (L f).take s = L f := List.take_of_length_le (by omega)
    rw [tk] at hd l ⊢
    exact ps_yV (Or.inl ⟨rfl, rfl⟩) ht hR (ps_K_le hK) hd (by omega) (fun r u' o => by obtain ⟨_, _, _, _, _, _, _⟩ := u'; exact h _ _ o)
  | succ c ih =>
    intro s e x y hd
    have i1 : s < 50 := by omega
    have i2 : s < (L f).length := by omega
    have r := hR f hf s i2
    have l := ps_fo_tk (ps_prm k) [] (L f) s
    rw [List.length_nil] at l
    have st := ps_fo_1 (ps_prm k) [] (L f) s i2
    refine ⟨ps_in8 hf, ?_⟩
    rw [ps_cl8 hf, hz]
    refine br_f (nI_ge (by omega) (by omega)) ⟨ps_inY hf i1, ?_⟩
    rw [ps_clY hf i1, r.1, r.2]
    refine br_c (fun q => nm_r (nI_1 s) ?_) (fun q => ⟨ps_inY hf i1, ps_inY hf i1, ?_⟩)
    · rw [ps_st_n (by unfold ps_prm; exact if_pos q)] at st
      have w := ih (s + 1) (by omega) x y
      rw [st] at w
      exact w hd
    · rw [ps_st_s (z := (ps_at (L f) s).2) (by unfold ps_prm; exact if_neg q)] at st
      refine ps_yS hd (by omega) (fun x' y' hd' => nm_r (nI_1 s) ?_)
      have w := ih (s + 1) (by omega) x' y'
      rw [st] at w
      exact w hd'
theorem ps_yrem {k : Int32} (hK : ps_K kd sz L) (hR : ps_R 50 a b L) (hf : f < 8) (ht : t < 8) (h1 : kd f = 1)
    (h : ∀ r u', ps_out ps_Y kd sz L 1 24 t (ps_rm k (L f)) r u' → post r u') : wpY_remove post (n, kd, sz, a, b, x, y) (nI f) k (nI t) := by
  unfold wpY_remove
  refine ps_yP1 hf (br_f ps_10 (ps_yP1 ht (br_f ps_10 ⟨ps_in8 hf, ?_⟩)))
  rw [ps_cl8 hf]
  rw [← ps_rm_fo k (L f) (ps_kok_1 (hK f hf).2 h1).2] at h
  exact br_t h1 ⟨(L f).length + 1, ps_yrl hK hR hf ht h (L f).length 0 (Nat.zero_add _) x y ps_dr_n⟩
theorem ps_fi_l (M : List ps_E) (i : Nat) (v : Int32) (k : Nat) : (ps_aq [] (ps_fi M i v) k).length ≤ k * 2 := by
  have h := ps_aq_len [] (ps_fi M i v) 2 k (fun j _ => ps_fi_len M i v j)
  rw [List.length_nil] at h
  omega
theorem ps_yil {i : Nat} {v : Int32} (hK : ps_K kd sz L) (hR : ps_R 50 a b L) (hf : f < 8) (ht : t < 8) (h2 : kd f = 2) (hi : i ≤ (L f).length)
    (hl : ∀ k, k ≤ (L f).length + 1 → (ps_aq [] (ps_fi (L f) i v) k).length ≤ k + 1)
    (h : ∀ r u', ps_out ps_Y kd sz L 2 48 t (ps_aq [] (ps_fi (L f) i v) ((L f).length + 1)) r u' → post r u') :
    ∀ (c s : Nat), s + c = (L f).length + 1 → ∀ x y, ps_dr 100 x y (ps_aq [] (ps_fi (L f) i v) s) →
      wY_insert_55 post (nI f) (nI i) v (nI t) (c + 1) (nI s) (nI (ps_aq [] (ps_fi (L f) i v) s).length) kd sz a b x y := by
  have hL := ps_K_le hK f hf
  have hz := (hK f hf).1
  have hzz := (ps_kok_2 (hK f hf).2 h2).2
  intro c
  induction c with
  | zero =>
    intro s e x y hd
    have q : s = (L f).length + 1 := by omega
    subst q
    have l := hl ((L f).length + 1) (Nat.le_refl _)
    refine ⟨ps_in8 hf, ?_⟩
    rw [ps_cl8 hf, hz]
    exact br_t (nI_lt (by omega) (by omega)) (ps_yV (Or.inr ⟨by decide, rfl⟩) ht hR (ps_K_le hK) hd (by omega) (fun r u' o => by obtain ⟨_, _, _, _, _, _, _⟩ := u'; exact h _ _ o))
  | succ c ih =>
    intro s e x y hd
    have i1 : s < 50 := by omega
    have l := hl s (by omega)
    -- what follows the first half of the turn
    have half : ∀ (D : List ps_E) (x y : Nat → Int32), D.length < 99 → ps_dr 100 x y D → ps_aq [] (ps_fi (L f) i v) (s + 1) = D ++ (if s < (L f).length then [ps_at (L f) s] else []) →
        wY_insert_77 post (wY_insert_55 post (nI f) (nI i) v (nI t) (c + 1)) (nI f) (nI i) v (nI t) (nI s) (nI D.length) kd sz a b x y := fun D x y hD hd q => by
      have w := ih (s + 1) (by omega)
      rw [q] at w
      refine ⟨ps_in8 hf, ?_⟩
      rw [ps_cl8 hf, hz]
      refine pk_le (L f).length s (fun c1 => nm_r (nI_1 s) ?_) (fun c1 => ⟨ps_inY hf i1, ?_⟩)
      · rw [if_neg (by omega), List.append_nil] at w
        exact w x y hd
      · rw [ps_clY hf i1, (hR f hf s c1).1]
        rw [if_pos c1] at w
        refine ps_yA hd (by omega) (fun x' y' hd' => nm_r (nI_1 s) ?_)
        rw [ps_z_pr hzz] at hd' ⊢
        exact w x' y' hd'
    refine ⟨ps_in8 hf, ?_⟩
    rw [ps_cl8 hf, hz]
    refine br_f (nI_nlt (by omega) (by omega)) (pk_eq s i (fun c1 => ?_) (fun c1 => ?_))
    · refine ps_yA hd (by omega) (fun x' y' hd' => ?_)
      refine half _ x' y' (by rw [ps_len1]; omega) hd' ?_
      show ps_aq [] (ps_fi (L f) i v) s ++ ((if s = i then [(v, 0)] else []) ++ (if s < (L f).length then [ps_at (L f) s] else [])) = _
      rw [if_pos c1, List.append_assoc]
    · refine half _ x y (by omega) hd ?_
      show ps_aq [] (ps_fi (L f) i v) s ++ ((if s = i then [(v, 0)] else []) ++ (if s < (L f).length then [ps_at (L f) s] else [])) = _
      rw [if_neg c1, List.nil_append]
theorem ps_fi_k (M : List ps_E) (i : Nat) (v : Int32) : ∀ k, (ps_aq [] (ps_fi M i v) k).length ≤ k + (if i < k then 1 else 0)
  | 0 => Nat.zero_le _
  | k + 1 => by
    have h := ps_fi_k M i v k
    show (ps_aq [] (ps_fi M i v) k ++ ((if k = i then [(v, 0)] else []) ++ (if k < M.length then [ps_at M k] else []))).length ≤ _
    rw [List.length_append, List.length_append]
    have h3 : (if k < M.length then [ps_at M k] else []).length ≤ 1 := by split <;> simp
    by_cases c : k = i
    · rw [if_pos c, List.length_singleton, if_pos (show i < k + 1 by omega)]
      rw [if_neg (show ¬ i < k by omega)] at h
      omega
    · rw [if_neg c, List.length_nil]
      by_cases d : i < k
      · rw [if_pos d] at h
        rw [if_pos (show i < k + 1 by omega)]
        omega
      · rw [if_neg d] at h
        rw [if_neg (show ¬ i < k + 1 by omega)]
        omega
theorem ps_yins {i : Nat} {v : Int32} (hK : ps_K kd sz L) (hR : ps_R 50 a b L) (hf : f < 8) (ht : t < 8) (h2 : kd f = 2) (hi : i ≤ (L f).length)
    (h : ∀ r u', ps_out ps_Y kd sz L 2 48 t (ps_aq [] (ps_fi (L f) i v) ((L f).length + 1)) r u' → post r u') : wpY_insert post (n, kd, sz, a, b, x, y) (nI f) (nI i) v (nI t) := by
  have hL := ps_K_le hK f hf
  have hz := (hK f hf).1
  unfold wpY_insert
  refine ps_yP1 hf (br_f ps_10 (ps_yP1 ht (br_f ps_10 ⟨ps_in8 hf, ?_⟩)))
  rw [ps_cl8 hf]
  refine br_t h2 (br_f (nI_pos (by omega)) ⟨ps_in8 hf, ?_⟩)
  rw [hz]
  refine br_t (nI_le hi (by omega)) ⟨(L f).length + 2, ps_yil hK hR hf ht h2 hi (fun k _ => ?_) h ((L f).length + 1) 0 (Nat.zero_add _) x y ps_dr_n⟩
  have q := ps_fi_k (L f) i v k
  split at q <;> omega
theorem ps_fs_l (M : List ps_E) (i j : Nat) (bb : Bool) (k : Nat) : (ps_aq [] (ps_fs M i j bb) k).length ≤ k := by
  have h := ps_aq_len [] (ps_fs M i j bb) 1 k (fun q _ => ps_fs_len M i j bb q)
  rw [List.length_nil] at h
  omega
theorem ps_ysl {i j : Nat} {bb : Bool} (hK : ps_K kd sz L) (hR : ps_R 50 a b L) (hf : f < 8) (ht : t < 8) (h2 : kd f = 2) (hj : j ≤ (L f).length) (hi : i ≤ j)
    (h : ∀ r u', ps_out ps_Y kd sz L 2 48 t (ps_aq [] (ps_fs (L f) i j bb) (L f).length) r u' → post r u') :
    ∀ (c s : Nat), s + c = (L f).length → ∀ x y, ps_dr 100 x y (ps_aq [] (ps_fs (L f) i j bb) s) →
      wY_some_60 post (nI f) (nI i) (nI j) (nI t) (if bb = true then 1 else 0) (c + 1) (nI s) (nI (ps_aq [] (ps_fs (L f) i j bb) s).length) kd sz a b x y := by
  have hL := ps_K_le hK f hf
  have hz := (hK f hf).1
  have hzz := (ps_kok_2 (hK f hf).2 h2).2
  intro c
  induction c with
  | zero =>
    intro s e x y hd
    have q : s = (L f).length := by omega
    subst q
    have l := ps_fs_l (L f) i j bb (L f).length
    refine ⟨ps_in8 hf, ?_⟩
    rw [ps_cl8 hf, hz]
    exact br_t (nI_le (by omega) (by omega)) (ps_yV (Or.inr ⟨by decide, rfl⟩) ht hR (ps_K_le hK) hd (by omega) (fun r u' o => by obtain ⟨_, _, _, _, _, _, _⟩ := u'; exact h _ _ o))
  | succ c ih =>
    intro s e x y hd
    have i1 : s < 50 := by omega
    have l := ps_fs_l (L f) i j bb s
    have st : ps_aq [] (ps_fs (L f) i j bb) (s + 1) = ps_aq [] (ps_fs (L f) i j bb) s ++ ps_fs (L f) i j bb s := rfl
    have w := ih (s + 1) (by omega)
    have yes : decide (i ≤ s ∧ s < j) = bb → ∀ z : Int32, z = (if bb = true then 1 else 0) → wY_some_88 post (wY_some_60 post (nI f) (nI i) (nI j) (nI t) (if bb = true then 1 else 0) (c + 1)) (nI f) (nI i) (nI j) (nI t) (if bb = true then 1 else 0) (nI s) z (nI (ps_aq [] (ps_fs (L f) i j bb) s).length) kd sz a b x y := fun q z ez => by
      rw [st, ps_fs_y q] at w
      refine br_t ez ⟨ps_inY hf i1, ?_⟩
      rw [ps_clY hf i1, (hR f hf s (by omega)).1]
      refine ps_yA hd (by omega) (fun x' y' hd' => nm_r (nI_1 s) ?_)
      rw [ps_z_pr hzz] at hd' ⊢
      exact w x' y' hd'
    have nay : ¬ decide (i ≤ s ∧ s < j) = bb → ∀ z : Int32, ¬ z = (if bb = true then 1 else 0) → wY_some_88 post (wY_some_60 post (nI f) (nI i) (nI j) (nI t) (if bb = true then 1 else 0) (c + 1)) (nI f) (nI i) (nI j) (nI t) (if bb = true then 1 else 0) (nI s) z (nI (ps_aq [] (ps_fs (L f) i j bb) s).length) kd sz a b x y := fun q z ez => by
      rw [st, ps_fs_n q, List.append_nil] at w
      exact br_f ez (nm_r (nI_1 s) (w x y hd))
    have out : ¬ (i ≤ s ∧ s < j) → wY_some_88 post (wY_some_60 post (nI f) (nI i) (nI j) (nI t) (if bb = true then 1 else 0) (c + 1)) (nI f) (nI i) (nI j) (nI t) (if bb = true then 1 else 0) (nI s) 0 (nI (ps_aq [] (ps_fs (L f) i j bb) s).length) kd sz a b x y := fun q => by
      cases hb : bb with
      | true => rw [hb] at yes nay; exact nay (by rw [decide_eq_true_eq]; exact q) 0 (by decide)
      | false => rw [hb] at yes nay; exact yes (by rw [decide_eq_false_iff_not]; exact q) 0 (by decide)
    refine ⟨ps_in8 hf, ?_⟩
    rw [ps_cl8 hf, hz]
    refine br_f (nI_ge (by omega) (by omega)) (pk_lt s i (fun c1 => out (by omega)) (fun c1 => pk_le j s (fun c2 => out (by omega)) (fun c2 => ?_)))
    cases hb : bb with
    | true => rw [hb] at yes nay; exact yes (by rw [decide_eq_true_eq]; omega) 1 (by decide)
    | false => rw [hb] at yes nay; exact nay (by rw [decide_eq_false_iff_not]; omega) 1 (by decide)
theorem ps_ysome {i j : Nat} (bb : Bool) (hK : ps_K kd sz L) (hR : ps_R 50 a b L) (hf : f < 8) (ht : t < 8) (h2 : kd f = 2) (hj : j ≤ (L f).length) (hi : i ≤ j)
    (h : ∀ r u', ps_out ps_Y kd sz L 2 48 t (ps_aq [] (ps_fs (L f) i j bb) (L f).length) r u' → post r u') :
    wpY_some post (n, kd, sz, a, b, x, y) (nI f) (nI i) (nI j) (nI t) (if bb = true then 1 else 0) := by
  have hL := ps_K_le hK f hf
  have hz := (hK f hf).1
  unfold wpY_some
  refine ps_yP1 hf (br_f ps_10 (ps_yP1 ht (br_f ps_10 ⟨ps_in8 hf, ?_⟩)))
  rw [ps_cl8 hf]
  refine br_t h2 (br_f (nI_pos (by omega)) (br_f (nI_nlt hi (by omega)) ⟨ps_in8 hf, ?_⟩))
  rw [hz]
  exact br_t (nI_le hj (by omega)) ⟨(L f).length + 1, ps_ysl hK hR hf ht h2 hj hi h (L f).length 0 (Nat.zero_add _) x y ps_dr_n⟩
theorem ps_yj2 {g : Nat} {D : List ps_E} (hK : ps_K kd sz L) (hR : ps_R 50 a b L) (hg : g < 8) (ht : t < 8) (h2 : kd g = 2) (hD : D.length ≤ 48)
    (h : ∀ r u', ps_out ps_Y kd sz L 2 48 t (ps_aq D (ps_g (L g) 0) (L g).length) r u' → post r u') :
    ∀ (c s : Nat), s + c = (L g).length → ∀ x y, ps_dr 100 x y (ps_aq D (ps_g (L g) 0) s) →
      wY_join_90 post (nI g) (nI t) (c + 1) (nI s) (nI (ps_aq D (ps_g (L g) 0) s).length) kd sz a b x y := by
  have hL := ps_K_le hK g hg
  have hz := (hK g hg).1
  have hzz := (ps_kok_2 (hK g hg).2 h2).2
  intro c
  induction c with
  | zero =>
    intro s e x y hd
    have q : s = (L g).length := by omega
    subst q
    have l := ps_aq_g D (L g) 0 (L g).length
    refine ⟨ps_in8 hg, ?_⟩
    rw [ps_cl8 hg, hz]
    exact br_t (nI_le (by omega) (by omega)) (ps_yV (Or.inr ⟨by decide, rfl⟩) ht hR (ps_K_le hK) hd (by omega) (fun r u' o => by obtain ⟨_, _, _, _, _, _, _⟩ := u'; exact h _ _ o))
  | succ c ih =>
    intro s e x y hd
    have i1 : s < 50 := by omega
    have l := ps_aq_g D (L g) 0 s
    have w := ih (s + 1) (by omega)
    have st : ps_aq D (ps_g (L g) 0) (s + 1) = ps_aq D (ps_g (L g) 0) s ++ [ps_at (L g) s] := by
      show ps_aq D (ps_g (L g) 0) s ++ [ps_at (L g) (0 + s)] = _
      rw [Nat.zero_add]
    rw [st] at w
    refine ⟨ps_in8 hg, ?_⟩
    rw [ps_cl8 hg, hz]
    refine br_f (nI_ge (by omega) (by omega)) ⟨ps_inY hg i1, ?_⟩
    rw [ps_clY hg i1, (hR g hg s (by omega)).1]
    refine ps_yA hd (by omega) (fun x' y' hd' => nm_r (nI_1 s) ?_)
    rw [ps_z_pr hzz] at hd' ⊢
    exact w x' y' hd'
theorem ps_yj1 {g : Nat} (hK : ps_K kd sz L) (hR : ps_R 50 a b L) (hf : f < 8) (hg : g < 8) (ht : t < 8) (h2 : kd f = 2) (h3 : kd g = 2)
    (h : ∀ r u', ps_out ps_Y kd sz L 2 48 t (ps_aq (ps_aq [] (ps_g (L f) 0) (L f).length) (ps_g (L g) 0) (L g).length) r u' → post r u') :
    ∀ (c s : Nat), s + c = (L f).length → ∀ x y, ps_dr 100 x y (ps_aq [] (ps_g (L f) 0) s) →
      wY_join_54 post (nI f) (nI g) (nI t) (c + 1) (nI s) (nI (ps_aq [] (ps_g (L f) 0) s).length) kd sz a b x y := by
  have hL := ps_K_le hK f hf
  have hz := (hK f hf).1
  have hzz := (ps_kok_2 (hK f hf).2 h2).2
  intro c
  induction c with
  | zero =>
    intro s e x y hd
    have q : s = (L f).length := by omega
    subst q
    have l := ps_aq_g [] (L f) 0 (L f).length
    rw [List.length_nil] at l
    refine ⟨ps_in8 hf, ?_⟩
    rw [ps_cl8 hf, hz]
    exact br_t (nI_le (by omega) (by omega)) ⟨(L g).length + 1, ps_yj2 hK hR hg ht h3 (by omega) h (L g).length 0 (Nat.zero_add _) x y hd⟩
  | succ c ih =>
    intro s e x y hd
    have i1 : s < 50 := by omega
    have l := ps_aq_g [] (L f) 0 s
    rw [List.length_nil] at l
    have w := ih (s + 1) (by omega)
    have st : ps_aq [] (ps_g (L f) 0) (s + 1) = ps_aq [] (ps_g (L f) 0) s ++ [ps_at (L f) s] := by
      show ps_aq [] (ps_g (L f) 0) s ++ [ps_at (L f) (0 + s)] = _
      rw [Nat.zero_add]
    rw [st] at w
    refine ⟨ps_in8 hf, ?_⟩
    rw [ps_cl8 hf, hz]
    refine br_f (nI_ge (by omega) (by omega)) ⟨ps_inY hf i1, ?_⟩
    rw [ps_clY hf i1, (hR f hf s (by omega)).1]
    refine ps_yA hd (by omega) (fun x' y' hd' => nm_r (nI_1 s) ?_)
    rw [ps_z_pr hzz] at hd' ⊢
    exact w x' y' hd'
theorem ps_yjoin {g : Nat} (hK : ps_K kd sz L) (hR : ps_R 50 a b L) (hf : f < 8) (hg : g < 8) (ht : t < 8) (h2 : kd f = 2) (h3 : kd g = 2)
    (h : ∀ r u', ps_out ps_Y kd sz L 2 48 t (ps_aq (ps_aq [] (ps_g (L f) 0) (L f).length) (ps_g (L g) 0) (L g).length) r u' → post r u') :
    wpY_join post (n, kd, sz, a, b, x, y) (nI f) (nI g) (nI t) := by
  unfold wpY_join
  refine ps_yP1 hf (br_f ps_10 (ps_yP1 hg (br_f ps_10 (ps_yP1 ht (br_f ps_10 ⟨ps_in8 hf, ?_⟩)))))
  rw [ps_cl8 hf, ps_cl8 hg]
  exact br_t h2 ⟨ps_in8 hg, br_t h3 ⟨(L f).length + 1, ps_yj1 hK hR hf hg ht h2 h3 h (L f).length 0 (Nat.zero_add _) x y ps_dr_n⟩⟩
theorem ps_ytl (hK : ps_K kd sz L) (hR : ps_R 50 a b L) (hf : f < 8) (ht : t < 8) (h2 : kd f = 2)
    (h : ∀ r u', ps_out ps_Y kd sz L 2 48 t (ps_aq [] (ps_ft (L f)) (L f).length) r u' → post r u') :
    ∀ c, c ≤ (L f).length → ∀ x y, ps_dr 100 x y (ps_aq [] (ps_ft (L f)) ((L f).length - c)) → wY_turn_43 post (nI f) (nI t) (c + 1) (nI c - 1) (nI (ps_aq [] (ps_ft (L f)) ((L f).length - c)).length) kd sz a b x y := by
  have hL := ps_K_le hK f hf
  have hzz := (ps_kok_2 (hK f hf).2 h2).2
  intro c
  induction c with
  | zero =>
    intro _ x y hd
    have l := ps_ft_len (L f) (L f).length
    exact br_t (by decide) (ps_yV (Or.inr ⟨by decide, rfl⟩) ht hR (ps_K_le hK) hd (by rw [Nat.sub_zero]; omega) (fun r u' o => by obtain ⟨_, _, _, _, _, _, _⟩ := u'; exact h _ _ o))
  | succ c ih =>
    intro hc x y hd
    have l := ps_ft_len (L f) ((L f).length - (c + 1))
    have r := hR f hf c (by omega)
    have z2 : nI c + (-1) = nI c - 1 := (Int32.sub_eq_add_neg _ _).symm
    rw [nI_pred]
    refine br_f (nI_pos (by omega)) ⟨ps_inY hf (by omega), ?_⟩
    rw [ps_clY hf (by omega), r.1]
    refine ps_yA hd (by omega) (fun x' y' hd' => nm_r z2 ?_)
    rw [ps_z_pr hzz, ps_ft_1 (L f) c (by omega)] at hd' ⊢
    exact ih (by omega) x' y' hd'
theorem ps_yturn (hK : ps_K kd sz L) (hR : ps_R 50 a b L) (hf : f < 8) (ht : t < 8) (h2 : kd f = 2)
    (h : ∀ r u', ps_out ps_Y kd sz L 2 48 t (ps_aq [] (ps_ft (L f)) (L f).length) r u' → post r u') :
    wpY_turn post (n, kd, sz, a, b, x, y) (nI f) (nI t) := by
  have hz := (hK f hf).1
  unfold wpY_turn
  refine ps_yP1 hf (br_f ps_10 (ps_yP1 ht (br_f ps_10 ⟨ps_in8 hf, ?_⟩)))
  rw [ps_cl8 hf]
  refine br_t h2 ⟨ps_in8 hf, ?_⟩
  rw [hz]
  refine nm_e ⟨(L f).length + 1, ?_⟩
  have w := ps_ytl hK hR hf ht h2 h (L f).length (Nat.le_refl _) x y
  rw [Nat.sub_self] at w
  exact w ps_dr_n
end
