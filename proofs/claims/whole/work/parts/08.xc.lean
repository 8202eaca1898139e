theorem ps_dr_pre {m : Nat} {x y : Nat → Int32} {D E : List ps_E} (h : ps_dr m x y (D ++ E)) : ps_dr m x y D := fun i hi hm => by
  have g := h i (by rw [List.length_append]; omega) hm
  rw [ps_at_l D E i hi] at g
  exact g
theorem ps_len_in (D : List ps_E) (e : ps_E) (s : Nat) (hs : s ≤ D.length) : (D.take s ++ e :: D.drop s).length = D.length + 1 := by
  rw [List.length_append, List.length_take, List.length_cons, List.length_drop]; omega
theorem ps_len_w (D : List ps_E) (e : ps_E) (s : Nat) (hs : s < D.length) : (D.take s ++ e :: D.drop (s + 1)).length = D.length := by
  rw [List.length_append, List.length_take, List.length_cons, List.length_drop]; omega
/-- a write at the place of an inserted pair -/
theorem ps_in_w (D : List ps_E) (e g : ps_E) (s : Nat) (hs : s ≤ D.length) : (D.take s ++ e :: D.drop s).take s ++ g :: (D.take s ++ e :: D.drop s).drop (s + 1) = D.take s ++ g :: D.drop s := by
  have l : (D.take s).length = s := by rw [List.length_take]; omega
  have a : (D.take s ++ e :: D.drop s).take s = D.take s := by
    have q := List.take_left (l₁ := D.take s) (l₂ := e :: D.drop s)
    rw [l] at q
    exact q
  have b : (D.take s ++ e :: D.drop s).drop (s + 1) = D.drop s := by
    have q := List.drop_append (l₁ := D.take s) (l₂ := e :: D.drop s) (i := s + 1)
    rw [q, l, List.drop_eq_nil_of_le (by rw [l]; omega), show s + 1 - s = 1 by omega]
    rfl
  rw [a, b]
section
variable {kd sz it vl di dv : Nat → Int32} {ds : Int32} {D : List ps_E}
theorem ps_xOl {post : SX → Prop} {s : Nat} {e : Int32} (hs : s ≤ D.length) (hD : D.length < 48)
    (h : ∀ di' dv', ps_dr 48 di' dv' (D.take s ++ (e, 0) :: D.drop s) → post (ds, kd, sz, it, vl, di', dv')) :
    ∀ c, s + c ≤ D.length → ∀ di dv, ps_sh di dv D (s + c) → wX_openDraftAt_13 post (nI s) e ds (c + 1) (nI (s + c)) kd sz it vl di dv := by
  intro c
  induction c with
  | zero =>
    intro hc di dv hh
    refine br_t (nI_le (by omega) (by omega)) ⟨pk_in s 48 (by omega), fun y' ey => ⟨pk_in s 48 (by omega), fun z ez => ?_⟩⟩
    rw [ps_cl (by omega)] at ey ez
    subst ey ez
    exact h _ _ (ps_sh_e hh hs)
  | succ c ih =>
    intro hc di dv hh
    have z : nI (s + (c + 1)) - 1 = nI (s + c) := nI_pred (s + c)
    have z2 : nI (s + (c + 1)) + (-1) = nI (s + c) := pk_m1 (s + c)
    refine br_f (nI_ge (by omega) (by omega)) ?_
    rw [z, ps_cl (i := s + c) (by omega), ps_cl (i := s + (c + 1)) (by omega)]
    refine ⟨pk_in (s + c) 48 (by omega), pk_in (s + (c + 1)) 48 (by omega), fun y' ey => ⟨pk_in (s + c) 48 (by omega), pk_in (s + (c + 1)) 48 (by omega), fun z' ez => nm_r z2 ?_⟩⟩
    subst ey ez
    exact ih (by omega) _ _ (ps_sh_1 (n := s + c) hh (by omega) rfl rfl)
theorem ps_xOp {post : SX → Prop} {s : Nat} {e : Int32} (hs : s ≤ D.length) (hD : D.length < 48) (hd : ps_dr 48 di dv D)
    (h : ∀ di' dv', ps_dr 48 di' dv' (D.take s ++ (e, 0) :: D.drop s) → post (nI (D.length + 1), kd, sz, it, vl, di', dv')) :
    wpX_openDraftAt post (nI D.length, kd, sz, it, vl, di, dv) (nI s) e := by
  unfold wpX_openDraftAt
  refine ps_xD hd (by omega) (fun di' dv' hd' => ?_)
  rw [ps_len1]
  refine nm_r (nI_pred _) ?_
  have w := ps_xOl (kd := kd) (sz := sz) (it := it) (vl := vl) (ds := nI (D.length + 1)) hs hD h (D.length - s) (by omega) di' dv'
  rw [show s + (D.length - s) = D.length by omega] at w
  exact ⟨_, w (ps_sh_0 (ps_dr_pre hd') (by omega))⟩
theorem ps_x43 {post : SX → Prop} {s w : Nat} {ix : Int32} (hw : w < 4) (hs : s < D.length) (hs48 : s < 48) (hd : ps_dr 48 di dv D)
    (h : ∀ dv', ps_dr 48 di dv' (D.take s ++ ((ps_at D s).1, if w = 2 then (ps_at D s).2 + 1 else ix) :: D.drop (s + 1)) → post (ds, kd, sz, it, vl, di, dv')) :
    wX_draftTally_43 post ix (nI w) (nI s) ds kd sz it vl di dv := by
  have g := hd s hs hs48
  unfold wX_draftTally_43
  refine pk_eq w 2 (fun c => ⟨pk_in s 48 hs48, pk_in s 48 hs48, fun y ey => ?_⟩) (fun c => ⟨pk_in s 48 hs48, fun y ey => ?_⟩)
  · rw [ps_cl (by omega), g.2] at ey
    subst ey
    rw [if_pos c] at h
    exact h _ (ps_dr_w hd hs ⟨g.1, pk_us⟩ (fun j hj => ⟨rfl, pk_un hj⟩))
  · rw [ps_cl (by omega)] at ey
    subst ey
    rw [if_neg c] at h
    exact h _ (ps_dr_w hd hs ⟨g.1, pk_us⟩ (fun j hj => ⟨rfl, pk_un hj⟩))
theorem ps_xTy {post : SX → Prop} {w : Nat} {e ix : Int32} (hw : w < 4) (hd : ps_dr 48 di dv D) (hD : D.length < 48) (hsr : ps_srt D)
    (h : ∀ di' dv', ps_dr 48 di' dv' (ps_ins e (if w = 2 then (ps_get e D).getD 0 + 1 else ix) D) → post (nI (ps_ins e (if w = 2 then (ps_get e D).getD 0 + 1 else ix) D).length, kd, sz, it, vl, di', dv')) :
    wpX_draftTally post (nI D.length, kd, sz, it, vl, di, dv) e ix (nI w) := by
  have b := ps_kb_le e D
  have no : ¬ ps_hit e D → wX_draftTally_36 post e ix (nI w) (nI (ps_kb e D)) (nI D.length) kd sz it vl di dv := fun q => by
    unfold wX_draftTally_36
    refine ps_xOp b hD hd (fun di' dv' hd' => ?_)
    have l := ps_len_in D (e, 0) (ps_kb e D) b
    refine ps_x43 hw (by omega) (by omega) hd' (fun dv2 hd2 => ?_)
    rw [ps_in_w D _ _ _ b, ps_at_in2 D _ _ _ b] at hd2
    have gn := ps_get_nhit e D hsr q
    rw [gn, ps_ins_n e _ D q] at h
    rw [ps_len_in D _ _ b] at h
    exact h _ _ hd2
  unfold wpX_draftTally
  refine ps_xJ hd (by omega) ?_
  refine pk_eq (ps_kb e D) D.length (fun c => no (fun q => absurd q.1 (by omega))) (fun c => ⟨pk_in (ps_kb e D) 48 (by omega), ?_⟩)
  have i1 : ps_kb e D < D.length := by omega
  have g := hd _ i1 (by omega)
  rw [ps_cl (i := ps_kb e D) (by omega), g.1]
  refine br_c (fun q => ?_) (fun q => no (fun z => q z.2))
  refine ps_x43 hw i1 (by omega) hd (fun dv2 hd2 => ?_)
  have gy := ps_get_hit e D ⟨i1, q⟩
  rw [gy, ps_ins_y e _ D ⟨i1, q⟩, ps_len_w D _ _ i1] at h
  rw [q] at hd2
  exact h _ _ hd2
end
section
variable {kd sz it vl di dv : Nat → Int32} {ds : Int32} {L : Nat → List ps_E} {f t : Nat} {post : Int32 → SX → Prop}
theorem ps_fc_len (M : List ps_E) (w n : Nat) : (ps_aq [] (ps_fc M w) n).length = n := by
  rw [ps_aq_eq, List.nil_append]
  exact ps_ap_1 _ n (fun _ _ => rfl)
theorem ps_xvl1 {w : Nat} (hK : ps_K kd sz L) (hR : ps_R 48 it vl L) (hf : f < 8) (ht : t < 8) (hw : w < 2)
    (h : ∀ r u', ps_out ps_X kd sz L 2 48 t (ps_aq [] (ps_fc (L f) w) (L f).length) r u' → post r u') :
    ∀ (c k : Nat), k + c = (L f).length → ∀ di dv, ps_dr 48 di dv (ps_aq [] (ps_fc (L f) w) k) → wX_convert_87 post (nI w) (nI t) 1 (nI (48 * f)) (nI (L f).length) (c + 1) (nI k) (nI (ps_aq [] (ps_fc (L f) w) k).length) kd sz it vl di dv := by
  have hL := ps_K_le hK f hf
  intro c
  induction c with
  | zero =>
    intro k e di dv hd
    have q : k = (L f).length := by omega
    subst q
    have l := ps_fc_len (L f) w (L f).length
    exact br_t (nI_le (by omega) (by omega)) (br_f ps_10 (ps_xV (Or.inr ⟨by decide, rfl⟩) ht hR (ps_K_le hK) hd (by omega) (fun r u' o => by obtain ⟨_, _, _, _, _, _, _⟩ := u'; exact h _ _ o)))
  | succ c ih =>
    intro k e di dv hd
    have l := ps_fc_len (L f) w k
    have i1 : k < 48 := by omega
    have r := hR f hf k (by omega)
    refine br_f (nI_ge (by omega) (by omega)) (br_f ps_10 (pk_eq w 0 (fun q => ⟨ps_inX hf i1, ?_⟩) (fun q => ⟨ps_inX hf i1, ?_⟩)))
    · rw [ps_clX hf i1, r.1]
      unfold wX_convert_127
      refine ps_xD hd (by omega) (fun di' dv' hd' => nm_r (nI_1 k) ?_)
      have x := ih (k + 1) (by omega) di' dv'
      have z : ps_aq [] (ps_fc (L f) w) (k + 1) = ps_aq [] (ps_fc (L f) w) k ++ [((ps_at (L f) k).1, 0)] := by
        show ps_aq [] (ps_fc (L f) w) k ++ [(if w = 0 then (ps_at (L f) k).1 else (ps_at (L f) k).2, 0)] = _
        rw [if_pos q]
      rw [z] at x
      exact x hd'
    · rw [ps_clX hf i1, r.2]
      unfold wX_convert_127
      refine ps_xD hd (by omega) (fun di' dv' hd' => nm_r (nI_1 k) ?_)
      have x := ih (k + 1) (by omega) di' dv'
      have z : ps_aq [] (ps_fc (L f) w) (k + 1) = ps_aq [] (ps_fc (L f) w) k ++ [((ps_at (L f) k).2, 0)] := by
        show ps_aq [] (ps_fc (L f) w) k ++ [(if w = 0 then (ps_at (L f) k).1 else (ps_at (L f) k).2, 0)] = _
        rw [if_neg q]
      rw [z] at x
      exact x hd'
theorem ps_xvl2 {w : Nat} (hK : ps_K kd sz L) (hR : ps_R 48 it vl L) (hf : f < 8) (ht : t < 8) (hw : w < 4)
    (h : ∀ r u', ps_out ps_X kd sz L 1 24 t (ps_tx w (L f) (L f).length) r u' → post r u') :
    ∀ (c k : Nat), k + c = (L f).length → ∀ di dv, ps_dr 48 di dv (ps_tx w (L f) k) → wX_convert_87 post (nI w) (nI t) 0 (nI (48 * f)) (nI (L f).length) (c + 1) (nI k) (nI (ps_tx w (L f) k).length) kd sz it vl di dv := by
  have hL := ps_K_le hK f hf
  intro c
  induction c with
  | zero =>
    intro k e di dv hd
    have q : k = (L f).length := by omega
    subst q
    have l := ps_tx_len w (L f) (L f).length
    exact br_t (nI_le (by omega) (by omega)) (br_t rfl (ps_xV (Or.inl ⟨rfl, rfl⟩) ht hR (ps_K_le hK) hd (by omega) (fun r u' o => by obtain ⟨_, _, _, _, _, _, _⟩ := u'; exact h _ _ o)))
  | succ c ih =>
    intro k e di dv hd
    have l := ps_tx_len w (L f) k
    have i1 : k < 48 := by omega
    have r := hR f hf k (by omega)
    refine br_f (nI_ge (by omega) (by omega)) (br_t rfl ⟨ps_inX hf i1, ?_⟩)
    rw [ps_clX hf i1, r.1]
    exact ps_xTy hw hd (by omega) (ps_tx_srt w (L f) k) (fun di' dv' hd' => nm_r (nI_1 k) (ih (k + 1) (by omega) di' dv' hd'))
theorem ps_xcv1 {w : Nat} (hK : ps_K kd sz L) (hR : ps_R 48 it vl L) (hf : f < 8) (ht : t < 8) (hw : w < 2) (h1 : kd f = 1)
    (h : ∀ r u', ps_out ps_X kd sz L 2 48 t (ps_aq [] (ps_fc (L f) w) (L f).length) r u' → post r u') : wpX_convert post (ds, kd, sz, it, vl, di, dv) (nI f) (nI w) (nI t) := by
  have hz := (hK f hf).1
  have g : wX_convert_41 post (nI f) (nI w) (nI t) 1 ds kd sz it vl di dv := by
    refine ⟨ps_in8 hf, br_f ps_10 ?_⟩
    rw [ps_cl8 hf]
    refine br_t h1 (ps_xS (ps_xR ⟨ps_in8 hf, ?_⟩))
    rw [ps_cl8 hf, hz]
    exact nm_e ⟨(L f).length + 1, ps_xvl1 hK hR hf ht hw h (L f).length 0 (Nat.zero_add _) di dv ps_dr_n⟩
  unfold wpX_convert
  refine ps_xP1 hf (br_f ps_10 (ps_xP1 ht (br_f ps_10 (br_f (nI_pos (by omega)) (br_t (nI_le (b := 3) (by omega) (by decide)) ?_)))))
  exact pk_eq w 0 (fun _ => g) (fun c => br_t (by rw [show w = 1 by omega]; rfl) g)
theorem ps_xcv2 {w : Nat} (hK : ps_K kd sz L) (hR : ps_R 48 it vl L) (hf : f < 8) (ht : t < 8) (hw : w < 4) (hw2 : 2 ≤ w) (h2 : kd f = 2)
    (h : ∀ r u', ps_out ps_X kd sz L 1 24 t (ps_tx w (L f) (L f).length) r u' → post r u') : wpX_convert post (ds, kd, sz, it, vl, di, dv) (nI f) (nI w) (nI t) := by
  have hz := (hK f hf).1
  have g : wX_convert_41 post (nI f) (nI w) (nI t) 0 ds kd sz it vl di dv := by
    refine ⟨ps_in8 hf, br_t rfl ?_⟩
    rw [ps_cl8 hf]
    refine br_t h2 (ps_xS (ps_xR ⟨ps_in8 hf, ?_⟩))
    rw [ps_cl8 hf, hz]
    exact nm_e ⟨(L f).length + 1, ps_xvl2 hK hR hf ht hw h (L f).length 0 (Nat.zero_add _) di dv ps_dr_n⟩
  unfold wpX_convert
  refine ps_xP1 hf (br_f ps_10 (ps_xP1 ht (br_f ps_10 (br_f (nI_pos (by omega)) (br_t (nI_le (b := 3) (by omega) (by decide)) ?_)))))
  exact pk_eq w 0 (fun c => absurd c (by omega)) (fun _ => pk_eq w 1 (fun c => absurd c (by omega)) (fun _ => g))
end
