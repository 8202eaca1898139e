theorem ps_hc (kind : Int32) : (kind = 1 ∧ (if kind = 1 then (24 : Nat) else 48) = 24) ∨ (¬ kind = 1 ∧ (if kind = 1 then (24 : Nat) else 48) = 48) := by
  by_cases h : kind = 1
  · exact Or.inl ⟨h, if_pos h⟩
  · exact Or.inr ⟨h, if_neg h⟩
theorem ps_put_y {k v : Int32} {L : List ps_E} (h : ps_hit k L) : ps_aq (ps_aq [] (ps_g L 0) (ps_kb k L) ++ [(k, v)]) (ps_g L (ps_kb k L + 1)) (L.length - (ps_kb k L + 1)) = ps_ins k v L := by
  have l := h.1
  rw [ps_aq_eq, ps_aq_eq, List.nil_append, ps_g_0 _ _ (by omega), ps_g_end _ _ (by omega), ps_ins_y k v L h, List.append_assoc]
  rfl
theorem ps_put_n {k v : Int32} {L : List ps_E} (h : ¬ ps_hit k L) : ps_aq (ps_aq [] (ps_g L 0) (ps_kb k L) ++ [(k, v)]) (ps_g L (ps_kb k L)) (L.length - ps_kb k L) = ps_ins k v L := by
  have l := ps_kb_le k L
  rw [ps_aq_eq, ps_aq_eq, List.nil_append, ps_g_0 _ _ (by omega), ps_g_end _ _ (by omega), ps_ins_n k v L h, List.append_assoc]
  rfl
theorem ps_rem_y {k : Int32} {L : List ps_E} (h : ps_hit k L) : ps_aq (ps_aq [] (ps_g L 0) (ps_kb k L)) (ps_g L (ps_kb k L + 1)) (L.length - (ps_kb k L + 1)) = ps_rm k L := by
  have l := h.1
  rw [ps_aq_eq, ps_aq_eq, List.nil_append, ps_g_0 _ _ (by omega), ps_g_end _ _ (by omega), ps_rm_y k L h]
theorem ps_rem_n {k : Int32} {L : List ps_E} (h : ¬ ps_hit k L) : ps_aq (ps_aq [] (ps_g L 0) (ps_kb k L)) (ps_g L (ps_kb k L)) (L.length - ps_kb k L) = ps_rm k L := by
  have l := ps_kb_le k L
  rw [ps_aq_eq, ps_aq_eq, List.nil_append, ps_g_0 _ _ (by omega), ps_g_end _ _ (by omega), ps_rm_n k L h]
theorem ps_ft_1 (L : List ps_E) (c : Nat) (h : c < L.length) : ps_aq [] (ps_ft L) (L.length - (c + 1)) ++ [ps_at L c] = ps_aq [] (ps_ft L) (L.length - c) := by
  have e : L.length - c = (L.length - (c + 1)) + 1 := by omega
  have q : L.length - 1 - (L.length - (c + 1)) = c := by omega
  rw [e]
  show _ = ps_aq [] (ps_ft L) (L.length - (c + 1)) ++ [ps_at L (L.length - 1 - (L.length - (c + 1)))]
  rw [q]
section
variable {kd sz it vl di dv : Nat → Int32} {ds : Int32} {L : Nat → List ps_E} {f t : Nat} {post : Int32 → SX → Prop}
theorem ps_xmake {kind : Int32} (hK : ps_K kd sz L) (hR : ps_R 48 it vl L) (ht : t < 8) (h0 : ¬ kind < 0) (h2 : kind ≤ 2)
    (h : ∀ r u', ps_out ps_X kd sz L kind (if kind = 1 then 24 else 48) t [] r u' → post r u') : wpX_make post (ds, kd, sz, it, vl, di, dv) (nI t) kind := by
  unfold wpX_make
  refine ps_xP1 ht (br_f ps_10 (br_f h0 (br_t h2 (ps_xS ?_))))
  exact ps_xV (D := []) (ps_hc kind) ht hR (ps_K_le hK) ps_dr_n (by decide) (fun r u' o => by obtain ⟨_, _, _, _, _, _, _⟩ := u'; exact h _ _ o)
theorem ps_xcopy (hK : ps_K kd sz L) (hR : ps_R 48 it vl L) (hf : f < 8) (ht : t < 8) (h0 : ¬ kd f = 0)
    (h : ∀ r u', ps_out ps_X kd sz L (kd f) (if kd f = 1 then 24 else 48) t (L f) r u' → post r u') : wpX_copy post (ds, kd, sz, it, vl, di, dv) (nI f) (nI t) := by
  have hz := (hK f hf).1
  have hL := ps_K_le hK f hf
  unfold wpX_copy
  refine ps_xP1 hf (br_f ps_10 (ps_xP1 ht (br_f ps_10 ⟨ps_in8 hf, ?_⟩)))
  rw [ps_cl8 hf]
  refine br_f h0 (ps_xS ⟨ps_in8 hf, ?_⟩)
  rw [hz]
  refine ps_xG (D := []) (L := L f) (s := 0) (L f).length hf (hR f hf) (Nat.zero_add _) (Nat.le_refl _) hL (by simp; omega) ps_dr_n (fun di' dv' hd => ⟨ps_in8 hf, ?_⟩)
  rw [ps_aq_eq, ps_g_all, List.nil_append] at hd ⊢
  exact ps_xV (ps_hc _) ht hR (ps_K_le hK) hd (by omega) (fun r u' o => by obtain ⟨_, _, _, _, _, _, _⟩ := u'; exact h _ _ o)
theorem ps_xput78 {k v : Int32} {s e : Nat} (hK : ps_K kd sz L) (hR : ps_R 48 it vl L) (hf : f < 8) (ht : t < 8) (hs : s ≤ (L f).length) (he : e ≤ (L f).length)
    (h : ∀ r u', ps_out ps_X kd sz L 1 24 t (ps_aq (ps_aq [] (ps_g (L f) 0) s ++ [(k, v)]) (ps_g (L f) e) ((L f).length - e)) r u' → post r u') :
    wX_put_78 post (nI f) k v (nI t) (nI s) (nI e) ds kd sz it vl di dv := by
  have hz := (hK f hf).1
  have hL := ps_K_le hK f hf
  unfold wX_put_78
  refine ps_xS ?_
  refine ps_xG (D := []) (L := L f) (s := 0) s hf (hR f hf) (Nat.zero_add _) hs hL (by simp; omega) ps_dr_n (fun di1 dv1 hd1 => ?_)
  have l1 := ps_aq_g [] (L f) 0 s
  rw [List.length_nil] at l1
  refine ps_xD hd1 (by omega) (fun di2 dv2 hd2 => ⟨ps_in8 hf, ?_⟩)
  have l2 := ps_len1 (ps_aq [] (ps_g (L f) 0) s) (k, v)
  rw [ps_cl8 hf, hz]
  refine ps_xG (L := L f) ((L f).length - e) hf (hR f hf) (by omega) (Nat.le_refl _) hL (by omega) hd2 (fun di3 dv3 hd3 => ?_)
  have l3 := ps_aq_g (ps_aq [] (ps_g (L f) 0) s ++ [(k, v)]) (L f) e ((L f).length - e)
  exact ps_xV (Or.inl ⟨rfl, rfl⟩) ht hR (ps_K_le hK) hd3 (by omega) (fun r u' o => by obtain ⟨_, _, _, _, _, _, _⟩ := u'; exact h _ _ o)
theorem ps_xput {k v : Int32} (hK : ps_K kd sz L) (hR : ps_R 48 it vl L) (hf : f < 8) (ht : t < 8) (h1 : kd f = 1)
    (h : ∀ r u', ps_out ps_X kd sz L 1 24 t (ps_ins k v (L f)) r u' → post r u') : wpX_put post (ds, kd, sz, it, vl, di, dv) (nI f) k v (nI t) := by
  have hz := (hK f hf).1
  have hL := ps_K_le hK f hf
  have b := ps_kb_le k (L f)
  unfold wpX_put
  refine ps_xP1 hf (br_f ps_10 (ps_xP1 ht (br_f ps_10 ⟨ps_in8 hf, ?_⟩)))
  rw [ps_cl8 hf]
  refine br_t h1 (ps_xR ⟨ps_in8 hf, ?_⟩)
  rw [hz]
  refine ps_xK hf (hR f hf) hL ?_
  refine ps_xH hf hz (hR f hf) hL (fun q => br_f ps_10 ?_) (fun q => br_t rfl ?_)
  · have q1 := q.1
    rw [← ps_put_y q] at h
    rw [nI_1]
    exact ps_xput78 hK hR hf ht b (by omega) h
  · rw [← ps_put_n q] at h
    exact ps_xput78 hK hR hf ht b b h
theorem ps_xrem77 {s e : Nat} (hK : ps_K kd sz L) (hR : ps_R 48 it vl L) (hf : f < 8) (ht : t < 8) (hs : s ≤ (L f).length) (he : e ≤ (L f).length)
    (h : ∀ r u', ps_out ps_X kd sz L 1 24 t (ps_aq (ps_aq [] (ps_g (L f) 0) s) (ps_g (L f) e) ((L f).length - e)) r u' → post r u') :
    wX_remove_77 post (nI f) (nI t) (nI s) (nI e) ds kd sz it vl di dv := by
  have hz := (hK f hf).1
  have hL := ps_K_le hK f hf
  unfold wX_remove_77
  refine ps_xS ?_
  refine ps_xG (D := []) (L := L f) (s := 0) s hf (hR f hf) (Nat.zero_add _) hs hL (by simp; omega) ps_dr_n (fun di1 dv1 hd1 => ⟨ps_in8 hf, ?_⟩)
  have l1 := ps_aq_g [] (L f) 0 s
  rw [List.length_nil] at l1
  rw [ps_cl8 hf, hz]
  refine ps_xG (L := L f) ((L f).length - e) hf (hR f hf) (by omega) (Nat.le_refl _) hL (by omega) hd1 (fun di3 dv3 hd3 => ?_)
  have l3 := ps_aq_g (ps_aq [] (ps_g (L f) 0) s) (L f) e ((L f).length - e)
  exact ps_xV (Or.inl ⟨rfl, rfl⟩) ht hR (ps_K_le hK) hd3 (by omega) (fun r u' o => by obtain ⟨_, _, _, _, _, _, _⟩ := u'; exact h _ _ o)
theorem ps_xrem {k : Int32} (hK : ps_K kd sz L) (hR : ps_R 48 it vl L) (hf : f < 8) (ht : t < 8) (h1 : kd f = 1)
    (h : ∀ r u', ps_out ps_X kd sz L 1 24 t (ps_rm k (L f)) r u' → post r u') : wpX_remove post (ds, kd, sz, it, vl, di, dv) (nI f) k (nI t) := by
  have hz := (hK f hf).1
  have hL := ps_K_le hK f hf
  have b := ps_kb_le k (L f)
  unfold wpX_remove
  refine ps_xP1 hf (br_f ps_10 (ps_xP1 ht (br_f ps_10 ⟨ps_in8 hf, ?_⟩)))
  rw [ps_cl8 hf]
  refine br_t h1 (ps_xR ⟨ps_in8 hf, ?_⟩)
  rw [hz]
  refine ps_xK hf (hR f hf) hL ?_
  refine ps_xH hf hz (hR f hf) hL (fun q => br_f ps_10 ?_) (fun q => br_t rfl ?_)
  · have q1 := q.1
    rw [← ps_rem_y q] at h
    rw [nI_1]
    exact ps_xrem77 hK hR hf ht b (by omega) h
  · rw [← ps_rem_n q] at h
    exact ps_xrem77 hK hR hf ht b b h
theorem ps_xins {i : Nat} {v : Int32} (hK : ps_K kd sz L) (hR : ps_R 48 it vl L) (hf : f < 8) (ht : t < 8) (h2 : kd f = 2) (hi : i ≤ (L f).length)
    (h : ∀ r u', ps_out ps_X kd sz L 2 48 t (ps_aq (ps_aq [] (ps_g (L f) 0) i ++ [(v, 0)]) (ps_g (L f) i) ((L f).length - i)) r u' → post r u') :
    wpX_insert post (ds, kd, sz, it, vl, di, dv) (nI f) (nI i) v (nI t) := by
  have hz := (hK f hf).1
  have hL := ps_K_le hK f hf
  unfold wpX_insert
  refine ps_xP1 hf (br_f ps_10 (ps_xP1 ht (br_f ps_10 ⟨ps_in8 hf, ?_⟩)))
  rw [ps_cl8 hf]
  refine br_t h2 (br_f (nI_pos (by omega)) ⟨ps_in8 hf, ?_⟩)
  rw [hz]
  refine br_t (nI_le hi (by omega)) (ps_xS ?_)
  refine ps_xG (D := []) (L := L f) (s := 0) i hf (hR f hf) (Nat.zero_add _) hi hL (by simp; omega) ps_dr_n (fun di1 dv1 hd1 => ?_)
  have l1 := ps_aq_g [] (L f) 0 i
  rw [List.length_nil] at l1
  refine ps_xD hd1 (by omega) (fun di2 dv2 hd2 => ⟨ps_in8 hf, ?_⟩)
  have l2 := ps_len1 (ps_aq [] (ps_g (L f) 0) i) (v, 0)
  rw [hz]
  refine ps_xG (L := L f) ((L f).length - i) hf (hR f hf) (by omega) (Nat.le_refl _) hL (by omega) hd2 (fun di3 dv3 hd3 => ?_)
  have l3 := ps_aq_g (ps_aq [] (ps_g (L f) 0) i ++ [(v, 0)]) (L f) i ((L f).length - i)
  exact ps_xV (Or.inr ⟨by decide, rfl⟩) ht hR (ps_K_le hK) hd3 (by omega) (fun r u' o => by obtain ⟨_, _, _, _, _, _, _⟩ := u'; exact h _ _ o)
theorem ps_xref {pst : Int32 → Prop} {i j : Nat} (hK : ps_K kd sz L) (hf : f < 8) (ht : t < 8) (h2 : kd f = 2) (hi : i ≤ j) (hj : j ≤ (L f).length) (h : pst 0) :
    wpX_refusalOfRange pst (ds, kd, sz, it, vl, di, dv) (nI f) (nI i) (nI j) (nI t) := by
  have hz := (hK f hf).1
  have hL := ps_K_le hK f hf
  unfold wpX_refusalOfRange
  refine ps_xP1 hf (br_f ps_10 (ps_xP1 ht (br_f ps_10 ⟨ps_in8 hf, ?_⟩)))
  rw [ps_cl8 hf]
  refine br_t h2 (br_f (nI_pos (by omega)) (br_f (nI_nlt hi (by omega)) ⟨ps_in8 hf, ?_⟩))
  rw [hz]
  exact br_f (nI_nlt hj (by omega)) h
theorem ps_xcut {i j : Nat} (hK : ps_K kd sz L) (hR : ps_R 48 it vl L) (hf : f < 8) (ht : t < 8) (h2 : kd f = 2) (hi : i ≤ j) (hj : j ≤ (L f).length)
    (h : ∀ r u', ps_out ps_X kd sz L 2 48 t (ps_aq (ps_aq [] (ps_g (L f) 0) i) (ps_g (L f) j) ((L f).length - j)) r u' → post r u') :
    wpX_cut post (ds, kd, sz, it, vl, di, dv) (nI f) (nI i) (nI j) (nI t) := by
  have hz := (hK f hf).1
  have hL := ps_K_le hK f hf
  unfold wpX_cut
  refine ps_xref hK hf ht h2 hi hj (br_t rfl (ps_xS ?_))
  refine ps_xG (D := []) (L := L f) (s := 0) i hf (hR f hf) (Nat.zero_add _) (by omega) hL (by simp; omega) ps_dr_n (fun di1 dv1 hd1 => ⟨ps_in8 hf, ?_⟩)
  have l1 := ps_aq_g [] (L f) 0 i
  rw [List.length_nil] at l1
  rw [ps_cl8 hf, hz]
  refine ps_xG (L := L f) ((L f).length - j) hf (hR f hf) (by omega) (Nat.le_refl _) hL (by omega) hd1 (fun di3 dv3 hd3 => ?_)
  have l3 := ps_aq_g (ps_aq [] (ps_g (L f) 0) i) (L f) j ((L f).length - j)
  exact ps_xV (Or.inr ⟨by decide, rfl⟩) ht hR (ps_K_le hK) hd3 (by omega) (fun r u' o => by obtain ⟨_, _, _, _, _, _, _⟩ := u'; exact h _ _ o)
theorem ps_xpart {i j : Nat} (hK : ps_K kd sz L) (hR : ps_R 48 it vl L) (hf : f < 8) (ht : t < 8) (h2 : kd f = 2) (hi : i ≤ j) (hj : j ≤ (L f).length)
    (h : ∀ r u', ps_out ps_X kd sz L 2 48 t (ps_aq [] (ps_g (L f) i) (j - i)) r u' → post r u') :
    wpX_part post (ds, kd, sz, it, vl, di, dv) (nI f) (nI i) (nI j) (nI t) := by
  have hL := ps_K_le hK f hf
  unfold wpX_part
  refine ps_xref hK hf ht h2 hi hj (br_t rfl (ps_xS ?_))
  refine ps_xG (D := []) (L := L f) (s := i) (j - i) hf (hR f hf) (by omega) hj hL (by simp; omega) ps_dr_n (fun di1 dv1 hd1 => ?_)
  have l1 := ps_aq_g [] (L f) i (j - i)
  rw [List.length_nil] at l1
  exact ps_xV (Or.inr ⟨by decide, rfl⟩) ht hR (ps_K_le hK) hd1 (by omega) (fun r u' o => by obtain ⟨_, _, _, _, _, _, _⟩ := u'; exact h _ _ o)
theorem ps_xjoin {g : Nat} (hK : ps_K kd sz L) (hR : ps_R 48 it vl L) (hf : f < 8) (hg : g < 8) (ht : t < 8) (h2 : kd f = 2) (h3 : kd g = 2)
    (h : ∀ r u', ps_out ps_X kd sz L 2 48 t (ps_aq (ps_aq [] (ps_g (L f) 0) (L f).length) (ps_g (L g) 0) (L g).length) r u' → post r u') :
    wpX_join post (ds, kd, sz, it, vl, di, dv) (nI f) (nI g) (nI t) := by
  have hz := (hK f hf).1
  have hzg := (hK g hg).1
  have hL := ps_K_le hK f hf
  have hLg := ps_K_le hK g hg
  unfold wpX_join
  refine ps_xP1 hf (br_f ps_10 (ps_xP1 hg (br_f ps_10 (ps_xP1 ht (br_f ps_10 ⟨ps_in8 hf, ?_⟩)))))
  rw [ps_cl8 hf, ps_cl8 hg]
  refine br_t h2 ⟨ps_in8 hg, br_t h3 (ps_xS ⟨ps_in8 hf, ?_⟩)⟩
  rw [hz]
  refine ps_xG (D := []) (L := L f) (s := 0) (L f).length hf (hR f hf) (Nat.zero_add _) (Nat.le_refl _) hL (by simp; omega) ps_dr_n (fun di1 dv1 hd1 => ⟨ps_in8 hg, ?_⟩)
  have l1 := ps_aq_g [] (L f) 0 (L f).length
  rw [List.length_nil] at l1
  rw [hzg]
  refine ps_xG (L := L g) (s := 0) (L g).length hg (hR g hg) (Nat.zero_add _) (Nat.le_refl _) hLg (by omega) hd1 (fun di3 dv3 hd3 => ?_)
  have l3 := ps_aq_g (ps_aq [] (ps_g (L f) 0) (L f).length) (L g) 0 (L g).length
  exact ps_xV (Or.inr ⟨by decide, rfl⟩) ht hR (ps_K_le hK) hd3 (by omega) (fun r u' o => by obtain ⟨_, _, _, _, _, _, _⟩ := u'; exact h _ _ o)
theorem ps_ft_len (M : List ps_E) (n : Nat) : (ps_aq [] (ps_ft M) n).length = n := by
  rw [ps_aq_eq, List.nil_append]
  exact ps_ap_1 _ n (fun _ _ => rfl)
theorem ps_xtl (hK : ps_K kd sz L) (hR : ps_R 48 it vl L) (hf : f < 8) (ht : t < 8) (h2 : kd f = 2)
    (h : ∀ r u', ps_out ps_X kd sz L 2 48 t (ps_aq [] (ps_ft (L f)) (L f).length) r u' → post r u') :
    ∀ c, c ≤ (L f).length → ∀ di dv, ps_dr 48 di dv (ps_aq [] (ps_ft (L f)) ((L f).length - c)) → wX_turn_51 post (nI t) (nI (48 * f)) (c + 1) (nI c - 1) (nI (ps_aq [] (ps_ft (L f)) ((L f).length - c)).length) kd sz it vl di dv := by
  have hL := ps_K_le hK f hf
  have hzz := (ps_kok_2 (hK f hf).2 h2).2
  intro c
  induction c with
  | zero =>
    intro _ di dv hd
    have l := ps_ft_len (L f) (L f).length
    exact br_t (by decide) (ps_xV (Or.inr ⟨by decide, rfl⟩) ht hR (ps_K_le hK) hd (by rw [Nat.sub_zero]; omega) (fun r u' o => by obtain ⟨_, _, _, _, _, _, _⟩ := u'; exact h _ _ o))
  | succ c ih =>
    intro hc di dv hd
    have l := ps_ft_len (L f) ((L f).length - (c + 1))
    have r := hR f hf c (by omega)
    have z2 : nI c + (-1) = nI c - 1 := (Int32.sub_eq_add_neg _ _).symm
    rw [nI_pred]
    refine br_f (nI_pos (by omega)) ⟨ps_inX hf (by omega), ?_⟩
    rw [ps_clX hf (by omega), r.1]
    refine ps_xD hd (by omega) (fun di' dv' hd' => nm_r z2 ?_)
    rw [ps_z_pr hzz, ps_ft_1 (L f) c (by omega)] at hd' ⊢
    exact ih (by omega) di' dv' hd'
theorem ps_xturn (hK : ps_K kd sz L) (hR : ps_R 48 it vl L) (hf : f < 8) (ht : t < 8) (h2 : kd f = 2)
    (h : ∀ r u', ps_out ps_X kd sz L 2 48 t (ps_aq [] (ps_ft (L f)) (L f).length) r u' → post r u') :
    wpX_turn post (ds, kd, sz, it, vl, di, dv) (nI f) (nI t) := by
  have hz := (hK f hf).1
  unfold wpX_turn
  refine ps_xP1 hf (br_f ps_10 (ps_xP1 ht (br_f ps_10 ⟨ps_in8 hf, ?_⟩)))
  rw [ps_cl8 hf]
  refine br_t h2 (ps_xS (ps_xR ⟨ps_in8 hf, ?_⟩))
  rw [hz]
  refine nm_e ⟨(L f).length + 1, ?_⟩
  have w := ps_xtl hK hR hf ht h2 h (L f).length (Nat.le_refl _) di dv
  rw [Nat.sub_self] at w
  exact w ps_dr_n
end
