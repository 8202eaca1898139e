theorem ps_z_aq {D : List ps_E} {f : Nat → List ps_E} (n : Nat) (hD : ps_z D) (hf : ∀ k, ps_z (f k)) : ps_z (ps_aq D f n) := by
  rw [ps_aq_eq]
  exact ps_z_a hD (ps_z_ap f n (fun k _ => hf k))
theorem ps_mg_len (how : Nat) : ∀ (n : Nat) (A B : List ps_E), (ps_mg how n A B).length ≤ n
  | 0, _, _ => by rw [ps_mg]; exact Nat.le_refl _
  | _ + 1, [], [] => by rw [ps_mg]; exact Nat.zero_le _
  | n + 1, e :: s, [] => by
    have h := ps_mg_len how n s []
    rw [ps_mg, List.length_append]
    have l : (ps_o e.1 (ps_cb how (some e.2) none)).length ≤ 1 := by cases ps_cb how (some e.2) none <;> simp [ps_o]
    omega
  | n + 1, [], f :: t => by
    have h := ps_mg_len how n [] t
    rw [ps_mg, List.length_append]
    have l : (ps_o f.1 (ps_cb how none (some f.2))).length ≤ 1 := by cases ps_cb how none (some f.2) <;> simp [ps_o]
    omega
  | n + 1, e :: s, f :: t => by
    have h1 := ps_mg_len how n s (f :: t)
    have h2 := ps_mg_len how n (e :: s) t
    have h3 := ps_mg_len how n s t
    have l1 : (ps_o e.1 (ps_cb how (some e.2) none)).length ≤ 1 := by cases ps_cb how (some e.2) none <;> simp [ps_o]
    have l2 : (ps_o f.1 (ps_cb how none (some f.2))).length ≤ 1 := by cases ps_cb how none (some f.2) <;> simp [ps_o]
    have l3 : (ps_o e.1 (ps_cb how (some e.2) (some f.2))).length ≤ 1 := by cases ps_cb how (some e.2) (some f.2) <;> simp [ps_o]
    rw [ps_mg]
    split
    · rw [List.length_append]; omega
    · split
      · rw [List.length_append]; omega
      · rw [List.length_append]; omega
theorem ps_m1 : ¬ (-1 : Int32) = 0 := by decide
theorem ps_m2 : ¬ (-2 : Int32) = 0 := by decide
theorem ps_m3 : ¬ (-3 : Int32) = 0 := by decide
theorem i_up {k : Nat} {u : SX} {v : SY} (h : i_Rel k u v) : i_Rel (k + 5) u v := h
theorem i_vc0 : wpX_init (fun u => wpY_init (fun v => i_Rel 0 u v)) :=
  ⟨fun _ => 0, fun _ => 0, fun _ => [], fun _ _ => ⟨rfl, Or.inl ⟨rfl, rfl⟩⟩, ⟨0, _, _, _, _, rfl, fun _ _ i hi => absurd hi (Nat.not_lt_zero i)⟩, ⟨0, _, _, _, _, rfl, fun _ _ i hi => absurd hi (Nat.not_lt_zero i)⟩⟩
theorem i_vc_make {k : Nat} {u : SX} {v : SY} (I : i_Rel k u v) (hk : k + 5 ≤ 2560) (v1 : Int32) (v2 : Int32) : wpX_make (fun r u' => wpY_make (fun r' v' => r' = r ∧ i_Rel (k + 5) u' v') v v1 v2) u v1 v2 := by
  obtain ⟨kd, sz, L, hK, ⟨ds, it, vl, di, dv, rfl, hX⟩, ⟨n, a, b, x, y, rfl, hY⟩⟩ := I
  have J : i_Rel (k + 5) (ds, kd, sz, it, vl, di, dv) (n, kd, sz, a, b, x, y) := ⟨kd, sz, L, hK, ⟨ds, it, vl, di, dv, rfl, hX⟩, ⟨n, a, b, x, y, rfl, hY⟩⟩
  by_cases c1 : ∃ p, p < 8 ∧ v1 = nI p
  · obtain ⟨t, ht, rfl⟩ := c1
    by_cases c2 : v2 < 0
    · skip
      unfold wpX_make
      refine ps_xP1 ht (br_f ps_10 (br_t c2 ?_))
      unfold wpY_make
      exact ps_yP1 ht (br_f ps_10 (br_t c2 ⟨rfl, J⟩))
    · by_cases c3 : v2 ≤ 2
      · refine ps_xmake hK hX ht c2 c3 (fun r u' o => ps_ymake hK hY ht c2 c3 (fun r' v' o' => ps_fin hK (fun _ => ?_) o o'))
        obtain ⟨j, hj, rfl⟩ := nI_of2 (M := 2) (n := 2) (by decide) c2 c3
        have q : j = 0 ∨ j = 1 ∨ j = 2 := by omega
        rcases q with rfl | rfl | rfl
        · exact Or.inl ⟨rfl, rfl⟩
        · exact Or.inr (Or.inl ⟨rfl, Nat.zero_le _, True.intro⟩)
        · exact Or.inr (Or.inr ⟨rfl, Nat.zero_le _, ps_z_n⟩)
      · skip
        unfold wpX_make
        refine ps_xP1 ht (br_f ps_10 (br_f c2 (br_f c3 ?_)))
        unfold wpY_make
        exact ps_yP1 ht (br_f ps_10 (br_f c2 (br_f c3 ⟨rfl, J⟩)))
  · skip
    unfold wpX_make
    refine ps_xP0 c1 (br_t rfl ?_)
    unfold wpY_make
    exact ps_yP0 c1 (br_t rfl ⟨rfl, J⟩)
theorem i_vc_copy {k : Nat} {u : SX} {v : SY} (I : i_Rel k u v) (hk : k + 5 ≤ 2560) (v1 : Int32) (v2 : Int32) : wpX_copy (fun r u' => wpY_copy (fun r' v' => r' = r ∧ i_Rel (k + 5) u' v') v v1 v2) u v1 v2 := by
  obtain ⟨kd, sz, L, hK, ⟨ds, it, vl, di, dv, rfl, hX⟩, ⟨n, a, b, x, y, rfl, hY⟩⟩ := I
  have J : i_Rel (k + 5) (ds, kd, sz, it, vl, di, dv) (n, kd, sz, a, b, x, y) := ⟨kd, sz, L, hK, ⟨ds, it, vl, di, dv, rfl, hX⟩, ⟨n, a, b, x, y, rfl, hY⟩⟩
  by_cases c1 : ∃ p, p < 8 ∧ v1 = nI p
  · obtain ⟨f, hf, rfl⟩ := c1
    by_cases c2 : ∃ p, p < 8 ∧ v2 = nI p
    · obtain ⟨t, ht, rfl⟩ := c2
      by_cases c3 : kd f = 0
      · skip
        unfold wpX_copy
        refine ps_xP1 hf (br_f ps_10 (ps_xP1 ht (br_f ps_10 (⟨ps_in8 hf, ?_⟩))))
        rw [ps_cl8 hf]
        refine br_t c3 ?_
        unfold wpY_copy
        refine ps_yP1 hf (br_f ps_10 (ps_yP1 ht (br_f ps_10 (⟨ps_in8 hf, ?_⟩))))
        rw [ps_cl8 hf]
        exact br_t c3 ⟨rfl, J⟩
      · exact ps_xcopy hK hX hf ht c3 (fun r u' o => ps_ycopy hK hY hf ht c3 (fun r' v' o' => ps_fin hK (fun _ => (hK f hf).2) o o'))
    · skip
      unfold wpX_copy
      refine ps_xP1 hf (br_f ps_10 (ps_xP0 c2 (br_t rfl ?_)))
      unfold wpY_copy
      exact ps_yP1 hf (br_f ps_10 (ps_yP0 c2 (br_t rfl ⟨rfl, J⟩)))
  · skip
    unfold wpX_copy
    refine ps_xP0 c1 (br_t rfl ?_)
    unfold wpY_copy
    exact ps_yP0 c1 (br_t rfl ⟨rfl, J⟩)
theorem i_vc_put {k : Nat} {u : SX} {v : SY} (I : i_Rel k u v) (hk : k + 5 ≤ 2560) (v1 : Int32) (v2 : Int32) (v3 : Int32) (v4 : Int32) : wpX_put (fun r u' => wpY_put (fun r' v' => r' = r ∧ i_Rel (k + 5) u' v') v v1 v2 v3 v4) u v1 v2 v3 v4 := by
  obtain ⟨kd, sz, L, hK, ⟨ds, it, vl, di, dv, rfl, hX⟩, ⟨n, a, b, x, y, rfl, hY⟩⟩ := I
  have J : i_Rel (k + 5) (ds, kd, sz, it, vl, di, dv) (n, kd, sz, a, b, x, y) := ⟨kd, sz, L, hK, ⟨ds, it, vl, di, dv, rfl, hX⟩, ⟨n, a, b, x, y, rfl, hY⟩⟩
  by_cases c1 : ∃ p, p < 8 ∧ v1 = nI p
  · obtain ⟨f, hf, rfl⟩ := c1
    by_cases c2 : ∃ p, p < 8 ∧ v4 = nI p
    · obtain ⟨t, ht, rfl⟩ := c2
      by_cases c3 : kd f = 1
      · exact ps_xput hK hX hf ht c3 (fun r u' o => ps_yput hK hY hf ht c3 (fun r' v' o' => ps_fin hK (fun q => Or.inr (Or.inl ⟨rfl, q, ps_ins_srt _ _ _ (ps_kok_1 (hK f hf).2 c3).2⟩)) o o'))
      · skip
        unfold wpX_put
        refine ps_xP1 hf (br_f ps_10 (ps_xP1 ht (br_f ps_10 (⟨ps_in8 hf, ?_⟩))))
        rw [ps_cl8 hf]
        refine br_f c3 ?_
        unfold wpY_put
        refine ps_yP1 hf (br_f ps_10 (ps_yP1 ht (br_f ps_10 (⟨ps_in8 hf, ?_⟩))))
        rw [ps_cl8 hf]
        exact br_f c3 ⟨rfl, J⟩
    · skip
      unfold wpX_put
      refine ps_xP1 hf (br_f ps_10 (ps_xP0 c2 (br_t rfl ?_)))
      unfold wpY_put
      exact ps_yP1 hf (br_f ps_10 (ps_yP0 c2 (br_t rfl ⟨rfl, J⟩)))
  · skip
    unfold wpX_put
    refine ps_xP0 c1 (br_t rfl ?_)
    unfold wpY_put
    exact ps_yP0 c1 (br_t rfl ⟨rfl, J⟩)
theorem i_vc_remove {k : Nat} {u : SX} {v : SY} (I : i_Rel k u v) (hk : k + 5 ≤ 2560) (v1 : Int32) (v2 : Int32) (v3 : Int32) : wpX_remove (fun r u' => wpY_remove (fun r' v' => r' = r ∧ i_Rel (k + 5) u' v') v v1 v2 v3) u v1 v2 v3 := by
  obtain ⟨kd, sz, L, hK, ⟨ds, it, vl, di, dv, rfl, hX⟩, ⟨n, a, b, x, y, rfl, hY⟩⟩ := I
  have J : i_Rel (k + 5) (ds, kd, sz, it, vl, di, dv) (n, kd, sz, a, b, x, y) := ⟨kd, sz, L, hK, ⟨ds, it, vl, di, dv, rfl, hX⟩, ⟨n, a, b, x, y, rfl, hY⟩⟩
  by_cases c1 : ∃ p, p < 8 ∧ v1 = nI p
  · obtain ⟨f, hf, rfl⟩ := c1
    by_cases c2 : ∃ p, p < 8 ∧ v3 = nI p
    · obtain ⟨t, ht, rfl⟩ := c2
      by_cases c3 : kd f = 1
      · exact ps_xrem hK hX hf ht c3 (fun r u' o => ps_yrem hK hY hf ht c3 (fun r' v' o' => ps_fin hK (fun q => Or.inr (Or.inl ⟨rfl, q, ps_rm_srt _ _ (ps_kok_1 (hK f hf).2 c3).2⟩)) o o'))
      · skip
        unfold wpX_remove
        refine ps_xP1 hf (br_f ps_10 (ps_xP1 ht (br_f ps_10 (⟨ps_in8 hf, ?_⟩))))
        rw [ps_cl8 hf]
        refine br_f c3 ?_
        unfold wpY_remove
        refine ps_yP1 hf (br_f ps_10 (ps_yP1 ht (br_f ps_10 (⟨ps_in8 hf, ?_⟩))))
        rw [ps_cl8 hf]
        exact br_f c3 ⟨rfl, J⟩
    · skip
      unfold wpX_remove
      refine ps_xP1 hf (br_f ps_10 (ps_xP0 c2 (br_t rfl ?_)))
      unfold wpY_remove
      exact ps_yP1 hf (br_f ps_10 (ps_yP0 c2 (br_t rfl ⟨rfl, J⟩)))
  · skip
    unfold wpX_remove
    refine ps_xP0 c1 (br_t rfl ?_)
    unfold wpY_remove
    exact ps_yP0 c1 (br_t rfl ⟨rfl, J⟩)
theorem i_vc_turn {k : Nat} {u : SX} {v : SY} (I : i_Rel k u v) (hk : k + 5 ≤ 2560) (v1 : Int32) (v2 : Int32) : wpX_turn (fun r u' => wpY_turn (fun r' v' => r' = r ∧ i_Rel (k + 5) u' v') v v1 v2) u v1 v2 := by
  obtain ⟨kd, sz, L, hK, ⟨ds, it, vl, di, dv, rfl, hX⟩, ⟨n, a, b, x, y, rfl, hY⟩⟩ := I
  have J : i_Rel (k + 5) (ds, kd, sz, it, vl, di, dv) (n, kd, sz, a, b, x, y) := ⟨kd, sz, L, hK, ⟨ds, it, vl, di, dv, rfl, hX⟩, ⟨n, a, b, x, y, rfl, hY⟩⟩
  by_cases c1 : ∃ p, p < 8 ∧ v1 = nI p
  · obtain ⟨f, hf, rfl⟩ := c1
    by_cases c2 : ∃ p, p < 8 ∧ v2 = nI p
    · obtain ⟨t, ht, rfl⟩ := c2
      by_cases c3 : kd f = 2
      · have hzz := (ps_kok_2 (hK f hf).2 c3).2
        exact ps_xturn hK hX hf ht c3 (fun r u' o => ps_yturn hK hY hf ht c3 (fun r' v' o' => ps_fin hK (fun q => Or.inr (Or.inr ⟨rfl, q, ps_z_aq _ ps_z_n (fun _ => ps_z_e hzz _)⟩)) o o'))
      · skip
        unfold wpX_turn
        refine ps_xP1 hf (br_f ps_10 (ps_xP1 ht (br_f ps_10 (⟨ps_in8 hf, ?_⟩))))
        rw [ps_cl8 hf]
        refine br_f c3 ?_
        unfold wpY_turn
        refine ps_yP1 hf (br_f ps_10 (ps_yP1 ht (br_f ps_10 (⟨ps_in8 hf, ?_⟩))))
        rw [ps_cl8 hf]
        exact br_f c3 ⟨rfl, J⟩
    · skip
      unfold wpX_turn
      refine ps_xP1 hf (br_f ps_10 (ps_xP0 c2 (br_t rfl ?_)))
      unfold wpY_turn
      exact ps_yP1 hf (br_f ps_10 (ps_yP0 c2 (br_t rfl ⟨rfl, J⟩)))
  · skip
    unfold wpX_turn
    refine ps_xP0 c1 (br_t rfl ?_)
    unfold wpY_turn
    exact ps_yP0 c1 (br_t rfl ⟨rfl, J⟩)
theorem i_vc_insert {k : Nat} {u : SX} {v : SY} (I : i_Rel k u v) (hk : k + 5 ≤ 2560) (v1 : Int32) (v2 : Int32) (v3 : Int32) (v4 : Int32) : wpX_insert (fun r u' => wpY_insert (fun r' v' => r' = r ∧ i_Rel (k + 5) u' v') v v1 v2 v3 v4) u v1 v2 v3 v4 := by
  obtain ⟨kd, sz, L, hK, ⟨ds, it, vl, di, dv, rfl, hX⟩, ⟨n, a, b, x, y, rfl, hY⟩⟩ := I
  have J : i_Rel (k + 5) (ds, kd, sz, it, vl, di, dv) (n, kd, sz, a, b, x, y) := ⟨kd, sz, L, hK, ⟨ds, it, vl, di, dv, rfl, hX⟩, ⟨n, a, b, x, y, rfl, hY⟩⟩
  by_cases c1 : ∃ p, p < 8 ∧ v1 = nI p
  · obtain ⟨f, hf, rfl⟩ := c1
    by_cases c2 : ∃ p, p < 8 ∧ v4 = nI p
    · obtain ⟨t, ht, rfl⟩ := c2
      have hL := ps_K_le hK f hf
      have hz := (hK f hf).1
      by_cases c3 : kd f = 2
      · have hzz := (ps_kok_2 (hK f hf).2 c3).2
        by_cases c4 : v2 < 0
        · skip
          unfold wpX_insert
          refine ps_xP1 hf (br_f ps_10 (ps_xP1 ht (br_f ps_10 (⟨ps_in8 hf, ?_⟩))))
          rw [ps_cl8 hf]
          refine br_t c3 (br_t c4 ?_)
          unfold wpY_insert
          refine ps_yP1 hf (br_f ps_10 (ps_yP1 ht (br_f ps_10 (⟨ps_in8 hf, ?_⟩))))
          rw [ps_cl8 hf]
          exact br_t c3 (br_t c4 ⟨rfl, J⟩)
        · by_cases c5 : v2 ≤ nI (L f).length
          · obtain ⟨i, hi, rfl⟩ := nI_of c4
            have c6 : i ≤ (L f).length := (nI_leI hi (by omega)).mp c5
            refine ps_xins hK hX hf ht c3 c6 (fun r u' o => ps_yins hK hY hf ht c3 c6 (fun r' v' o' => ?_))
            have e : ps_aq [] (ps_fi (L f) i v3) ((L f).length + 1) = ps_aq (ps_aq [] (ps_g (L f) 0) i ++ [(v3, 0)]) (ps_g (L f) i) ((L f).length - i) := by
              rw [ps_aq_eq [], ps_aq_eq [], ps_aq_eq, List.nil_append, List.nil_append, ps_fi_eq (L f) i v3 c6]
            rw [e] at o'
            exact ps_fin hK (fun q => Or.inr (Or.inr ⟨rfl, q, ps_z_aq _ (ps_z_a (ps_z_aq _ ps_z_n (fun _ => ps_z_e hzz _)) (ps_z_1 _)) (fun _ => ps_z_e hzz _)⟩)) o o'
          · skip
            unfold wpX_insert
            refine ps_xP1 hf (br_f ps_10 (ps_xP1 ht (br_f ps_10 (⟨ps_in8 hf, ?_⟩))))
            rw [ps_cl8 hf, hz]
            refine br_t c3 (br_f c4 ⟨ps_in8 hf, br_f c5 ?_⟩)
            unfold wpY_insert
            refine ps_yP1 hf (br_f ps_10 (ps_yP1 ht (br_f ps_10 (⟨ps_in8 hf, ?_⟩))))
            rw [ps_cl8 hf, hz]
            exact br_t c3 (br_f c4 ⟨ps_in8 hf, br_f c5 ⟨rfl, J⟩⟩)
      · skip
        unfold wpX_insert
        refine ps_xP1 hf (br_f ps_10 (ps_xP1 ht (br_f ps_10 (⟨ps_in8 hf, ?_⟩))))
        rw [ps_cl8 hf]
        refine br_f c3 ?_
        unfold wpY_insert
        refine ps_yP1 hf (br_f ps_10 (ps_yP1 ht (br_f ps_10 (⟨ps_in8 hf, ?_⟩))))
        rw [ps_cl8 hf]
        exact br_f c3 ⟨rfl, J⟩
    · skip
      unfold wpX_insert
      refine ps_xP1 hf (br_f ps_10 (ps_xP0 c2 (br_t rfl ?_)))
      unfold wpY_insert
      exact ps_yP1 hf (br_f ps_10 (ps_yP0 c2 (br_t rfl ⟨rfl, J⟩)))
  · skip
    unfold wpX_insert
    refine ps_xP0 c1 (br_t rfl ?_)
    unfold wpY_insert
    exact ps_yP0 c1 (br_t rfl ⟨rfl, J⟩)
theorem i_vc_cut {k : Nat} {u : SX} {v : SY} (I : i_Rel k u v) (hk : k + 5 ≤ 2560) (v1 : Int32) (v2 : Int32) (v3 : Int32) (v4 : Int32) : wpX_cut (fun r u' => wpY_cut (fun r' v' => r' = r ∧ i_Rel (k + 5) u' v') v v1 v2 v3 v4) u v1 v2 v3 v4 := by
  obtain ⟨kd, sz, L, hK, ⟨ds, it, vl, di, dv, rfl, hX⟩, ⟨n, a, b, x, y, rfl, hY⟩⟩ := I
  have J : i_Rel (k + 5) (ds, kd, sz, it, vl, di, dv) (n, kd, sz, a, b, x, y) := ⟨kd, sz, L, hK, ⟨ds, it, vl, di, dv, rfl, hX⟩, ⟨n, a, b, x, y, rfl, hY⟩⟩
  by_cases c1 : ∃ p, p < 8 ∧ v1 = nI p
  · obtain ⟨f, hf, rfl⟩ := c1
    by_cases c2 : ∃ p, p < 8 ∧ v4 = nI p
    · obtain ⟨t, ht, rfl⟩ := c2
      have hL := ps_K_le hK f hf
      have hz := (hK f hf).1
      by_cases c3 : kd f = 2
      · have hzz := (ps_kok_2 (hK f hf).2 c3).2
        by_cases c4 : v2 < 0
        · skip
          unfold wpX_cut wpX_refusalOfRange
          refine ps_xP1 hf (br_f ps_10 (ps_xP1 ht (br_f ps_10 (⟨ps_in8 hf, ?_⟩))))
          rw [ps_cl8 hf]
          refine br_t c3 (br_t c4 (br_f ps_m3 ?_))
          unfold wpY_cut wpY_some
          refine ps_yP1 hf (br_f ps_10 (ps_yP1 ht (br_f ps_10 (⟨ps_in8 hf, ?_⟩))))
          rw [ps_cl8 hf]
          exact br_t c3 (br_t c4 ⟨rfl, J⟩)
        · by_cases c5 : v3 < v2
          · skip
            unfold wpX_cut wpX_refusalOfRange
            refine ps_xP1 hf (br_f ps_10 (ps_xP1 ht (br_f ps_10 (⟨ps_in8 hf, ?_⟩))))
            rw [ps_cl8 hf]
            refine br_t c3 (br_f c4 (br_t c5 (br_f ps_m3 ?_)))
            unfold wpY_cut wpY_some
            refine ps_yP1 hf (br_f ps_10 (ps_yP1 ht (br_f ps_10 (⟨ps_in8 hf, ?_⟩))))
            rw [ps_cl8 hf]
            exact br_t c3 (br_f c4 (br_t c5 ⟨rfl, J⟩))
          · by_cases c6 : nI (L f).length < v3
            · have c7 : ¬ v3 ≤ nI (L f).length := Int32.not_le.mpr c6
              unfold wpX_cut wpX_refusalOfRange
              refine ps_xP1 hf (br_f ps_10 (ps_xP1 ht (br_f ps_10 (⟨ps_in8 hf, ?_⟩))))
              rw [ps_cl8 hf, hz]
              refine br_t c3 (br_f c4 (br_f c5 ⟨ps_in8 hf, br_t c6 (br_f ps_m3 ?_)⟩))
              unfold wpY_cut wpY_some
              refine ps_yP1 hf (br_f ps_10 (ps_yP1 ht (br_f ps_10 (⟨ps_in8 hf, ?_⟩))))
              rw [ps_cl8 hf, hz]
              exact br_t c3 (br_f c4 (br_f c5 ⟨ps_in8 hf, br_f c7 ⟨rfl, J⟩⟩))
            · have c8 : ¬ v3 < 0 := fun q => c4 (Int32.lt_of_le_of_lt (Int32.not_lt.mp c5) q)
              obtain ⟨i, hi, rfl⟩ := nI_of c4
              obtain ⟨j, hj, rfl⟩ := nI_of c8
              have d1 : i ≤ j := (nI_leI hi hj).mp (Int32.not_lt.mp c5)
              have d2 : j ≤ (L f).length := (nI_leI hj (by omega)).mp (Int32.not_lt.mp c6)
              refine ps_xcut hK hX hf ht c3 d1 d2 (fun r u' o => ?_)
              unfold wpY_cut
              refine ps_ysome false hK hY hf ht c3 d2 d1 (fun r' v' o' => ?_)
              have e : ps_aq [] (ps_fs (L f) i j false) (L f).length = ps_aq (ps_aq [] (ps_g (L f) 0) i) (ps_g (L f) j) ((L f).length - j) := by
                simp only [ps_aq_eq, List.nil_append]
                exact ps_fs_f (L f) i j d1 d2
              rw [e] at o'
              obtain ⟨_, _, _, _, _, _, _⟩ := v'
              exact ps_fin hK (fun q => Or.inr (Or.inr ⟨rfl, q, ps_z_aq _ (ps_z_aq _ ps_z_n (fun _ => ps_z_e hzz _)) (fun _ => ps_z_e hzz _)⟩)) o o'
      · skip
        unfold wpX_cut wpX_refusalOfRange
        refine ps_xP1 hf (br_f ps_10 (ps_xP1 ht (br_f ps_10 (⟨ps_in8 hf, ?_⟩))))
        rw [ps_cl8 hf]
        refine br_f c3 (br_f ps_m2 ?_)
        unfold wpY_cut wpY_some
        refine ps_yP1 hf (br_f ps_10 (ps_yP1 ht (br_f ps_10 (⟨ps_in8 hf, ?_⟩))))
        rw [ps_cl8 hf]
        exact br_f c3 ⟨rfl, J⟩
    · skip
      unfold wpX_cut wpX_refusalOfRange
      refine ps_xP1 hf (br_f ps_10 (ps_xP0 c2 (br_t rfl (br_f ps_m1 ?_))))
      unfold wpY_cut wpY_some
      exact ps_yP1 hf (br_f ps_10 (ps_yP0 c2 (br_t rfl ⟨rfl, J⟩)))
  · skip
    unfold wpX_cut wpX_refusalOfRange
    refine ps_xP0 c1 (br_t rfl (br_f ps_m1 ?_))
    unfold wpY_cut wpY_some
    exact ps_yP0 c1 (br_t rfl ⟨rfl, J⟩)
theorem i_vc_part {k : Nat} {u : SX} {v : SY} (I : i_Rel k u v) (hk : k + 5 ≤ 2560) (v1 : Int32) (v2 : Int32) (v3 : Int32) (v4 : Int32) : wpX_part (fun r u' => wpY_part (fun r' v' => r' = r ∧ i_Rel (k + 5) u' v') v v1 v2 v3 v4) u v1 v2 v3 v4 := by
  obtain ⟨kd, sz, L, hK, ⟨ds, it, vl, di, dv, rfl, hX⟩, ⟨n, a, b, x, y, rfl, hY⟩⟩ := I
  have J : i_Rel (k + 5) (ds, kd, sz, it, vl, di, dv) (n, kd, sz, a, b, x, y) := ⟨kd, sz, L, hK, ⟨ds, it, vl, di, dv, rfl, hX⟩, ⟨n, a, b, x, y, rfl, hY⟩⟩
  by_cases c1 : ∃ p, p < 8 ∧ v1 = nI p
  · obtain ⟨f, hf, rfl⟩ := c1
    by_cases c2 : ∃ p, p < 8 ∧ v4 = nI p
    · obtain ⟨t, ht, rfl⟩ := c2
      have hL := ps_K_le hK f hf
      have hz := (hK f hf).1
      by_cases c3 : kd f = 2
      · have hzz := (ps_kok_2 (hK f hf).2 c3).2
        by_cases c4 : v2 < 0
        · skip
          unfold wpX_part wpX_refusalOfRange
          refine ps_xP1 hf (br_f ps_10 (ps_xP1 ht (br_f ps_10 (⟨ps_in8 hf, ?_⟩))))
          rw [ps_cl8 hf]
          refine br_t c3 (br_t c4 (br_f ps_m3 ?_))
          unfold wpY_part wpY_some
          refine ps_yP1 hf (br_f ps_10 (ps_yP1 ht (br_f ps_10 (⟨ps_in8 hf, ?_⟩))))
          rw [ps_cl8 hf]
          exact br_t c3 (br_t c4 ⟨rfl, J⟩)
        · by_cases c5 : v3 < v2
          · skip
            unfold wpX_part wpX_refusalOfRange
            refine ps_xP1 hf (br_f ps_10 (ps_xP1 ht (br_f ps_10 (⟨ps_in8 hf, ?_⟩))))
            rw [ps_cl8 hf]
            refine br_t c3 (br_f c4 (br_t c5 (br_f ps_m3 ?_)))
            unfold wpY_part wpY_some
            refine ps_yP1 hf (br_f ps_10 (ps_yP1 ht (br_f ps_10 (⟨ps_in8 hf, ?_⟩))))
            rw [ps_cl8 hf]
            exact br_t c3 (br_f c4 (br_t c5 ⟨rfl, J⟩))
          · by_cases c6 : nI (L f).length < v3
            · have c7 : ¬ v3 ≤ nI (L f).length := Int32.not_le.mpr c6
              unfold wpX_part wpX_refusalOfRange
              refine ps_xP1 hf (br_f ps_10 (ps_xP1 ht (br_f ps_10 (⟨ps_in8 hf, ?_⟩))))
              rw [ps_cl8 hf, hz]
              refine br_t c3 (br_f c4 (br_f c5 ⟨ps_in8 hf, br_t c6 (br_f ps_m3 ?_)⟩))
              unfold wpY_part wpY_some
              refine ps_yP1 hf (br_f ps_10 (ps_yP1 ht (br_f ps_10 (⟨ps_in8 hf, ?_⟩))))
              rw [ps_cl8 hf, hz]
              exact br_t c3 (br_f c4 (br_f c5 ⟨ps_in8 hf, br_f c7 ⟨rfl, J⟩⟩))
            · have c8 : ¬ v3 < 0 := fun q => c4 (Int32.lt_of_le_of_lt (Int32.not_lt.mp c5) q)
              obtain ⟨i, hi, rfl⟩ := nI_of c4
              obtain ⟨j, hj, rfl⟩ := nI_of c8
              have d1 : i ≤ j := (nI_leI hi hj).mp (Int32.not_lt.mp c5)
              have d2 : j ≤ (L f).length := (nI_leI hj (by omega)).mp (Int32.not_lt.mp c6)
              refine ps_xpart hK hX hf ht c3 d1 d2 (fun r u' o => ?_)
              unfold wpY_part
              refine ps_ysome true hK hY hf ht c3 d2 d1 (fun r' v' o' => ?_)
              have e : ps_aq [] (ps_fs (L f) i j true) (L f).length = ps_aq [] (ps_g (L f) i) (j - i) := by
                simp only [ps_aq_eq, List.nil_append]
                exact ps_fs_t (L f) i j d1 d2
              rw [e] at o'
              obtain ⟨_, _, _, _, _, _, _⟩ := v'
              exact ps_fin hK (fun q => Or.inr (Or.inr ⟨rfl, q, ps_z_aq _ ps_z_n (fun _ => ps_z_e hzz _)⟩)) o o'
      · skip
        unfold wpX_part wpX_refusalOfRange
        refine ps_xP1 hf (br_f ps_10 (ps_xP1 ht (br_f ps_10 (⟨ps_in8 hf, ?_⟩))))
        rw [ps_cl8 hf]
        refine br_f c3 (br_f ps_m2 ?_)
        unfold wpY_part wpY_some
        refine ps_yP1 hf (br_f ps_10 (ps_yP1 ht (br_f ps_10 (⟨ps_in8 hf, ?_⟩))))
        rw [ps_cl8 hf]
        exact br_f c3 ⟨rfl, J⟩
    · skip
      unfold wpX_part wpX_refusalOfRange
      refine ps_xP1 hf (br_f ps_10 (ps_xP0 c2 (br_t rfl (br_f ps_m1 ?_))))
      unfold wpY_part wpY_some
      exact ps_yP1 hf (br_f ps_10 (ps_yP0 c2 (br_t rfl ⟨rfl, J⟩)))
  · skip
    unfold wpX_part wpX_refusalOfRange
    refine ps_xP0 c1 (br_t rfl (br_f ps_m1 ?_))
    unfold wpY_part wpY_some
    exact ps_yP0 c1 (br_t rfl ⟨rfl, J⟩)
theorem i_vc_join {k : Nat} {u : SX} {v : SY} (I : i_Rel k u v) (hk : k + 5 ≤ 2560) (v1 : Int32) (v2 : Int32) (v3 : Int32) : wpX_join (fun r u' => wpY_join (fun r' v' => r' = r ∧ i_Rel (k + 5) u' v') v v1 v2 v3) u v1 v2 v3 := by
  obtain ⟨kd, sz, L, hK, ⟨ds, it, vl, di, dv, rfl, hX⟩, ⟨n, a, b, x, y, rfl, hY⟩⟩ := I
  have J : i_Rel (k + 5) (ds, kd, sz, it, vl, di, dv) (n, kd, sz, a, b, x, y) := ⟨kd, sz, L, hK, ⟨ds, it, vl, di, dv, rfl, hX⟩, ⟨n, a, b, x, y, rfl, hY⟩⟩
  by_cases c1 : ∃ p, p < 8 ∧ v1 = nI p
  · obtain ⟨f, hf, rfl⟩ := c1
    by_cases c2 : ∃ p, p < 8 ∧ v2 = nI p
    · obtain ⟨g, hg, rfl⟩ := c2
      by_cases c3 : ∃ p, p < 8 ∧ v3 = nI p
      · obtain ⟨t, ht, rfl⟩ := c3
        by_cases c4 : kd f = 2
        · by_cases c5 : kd g = 2
          · have hzf := (ps_kok_2 (hK f hf).2 c4).2
            have hzg := (ps_kok_2 (hK g hg).2 c5).2
            exact ps_xjoin hK hX hf hg ht c4 c5 (fun r u' o => ps_yjoin hK hY hf hg ht c4 c5 (fun r' v' o' => ps_fin hK (fun q => Or.inr (Or.inr ⟨rfl, q, ps_z_aq _ (ps_z_aq _ ps_z_n (fun _ => ps_z_e hzf _)) (fun _ => ps_z_e hzg _)⟩)) o o'))
          · skip
            unfold wpX_join
            refine ps_xP1 hf (br_f ps_10 (ps_xP1 hg (br_f ps_10 (ps_xP1 ht (br_f ps_10 (⟨ps_in8 hf, ?_⟩))))))
            rw [ps_cl8 hf, ps_cl8 hg]
            refine br_t c4 ⟨ps_in8 hg, br_f c5 ?_⟩
            unfold wpY_join
            refine ps_yP1 hf (br_f ps_10 (ps_yP1 hg (br_f ps_10 (ps_yP1 ht (br_f ps_10 (⟨ps_in8 hf, ?_⟩))))))
            rw [ps_cl8 hf, ps_cl8 hg]
            exact br_t c4 ⟨ps_in8 hg, br_f c5 ⟨rfl, J⟩⟩
        · skip
          unfold wpX_join
          refine ps_xP1 hf (br_f ps_10 (ps_xP1 hg (br_f ps_10 (ps_xP1 ht (br_f ps_10 (⟨ps_in8 hf, ?_⟩))))))
          rw [ps_cl8 hf]
          refine br_f c4 ?_
          unfold wpY_join
          refine ps_yP1 hf (br_f ps_10 (ps_yP1 hg (br_f ps_10 (ps_yP1 ht (br_f ps_10 (⟨ps_in8 hf, ?_⟩))))))
          rw [ps_cl8 hf]
          exact br_f c4 ⟨rfl, J⟩
      · skip
        unfold wpX_join
        refine ps_xP1 hf (br_f ps_10 (ps_xP1 hg (br_f ps_10 (ps_xP0 c3 (br_t rfl ?_)))))
        unfold wpY_join
        exact ps_yP1 hf (br_f ps_10 (ps_yP1 hg (br_f ps_10 (ps_yP0 c3 (br_t rfl ⟨rfl, J⟩)))))
    · skip
      unfold wpX_join
      refine ps_xP1 hf (br_f ps_10 (ps_xP0 c2 (br_t rfl ?_)))
      unfold wpY_join
      exact ps_yP1 hf (br_f ps_10 (ps_yP0 c2 (br_t rfl ⟨rfl, J⟩)))
  · skip
    unfold wpX_join
    refine ps_xP0 c1 (br_t rfl ?_)
    unfold wpY_join
    exact ps_yP0 c1 (br_t rfl ⟨rfl, J⟩)
theorem i_vc_merge {k : Nat} {u : SX} {v : SY} (I : i_Rel k u v) (hk : k + 5 ≤ 2560) (v1 : Int32) (v2 : Int32) (v3 : Int32) (v4 : Int32) : wpX_merge (fun r u' => wpY_merge (fun r' v' => r' = r ∧ i_Rel (k + 5) u' v') v v1 v2 v3 v4) u v1 v2 v3 v4 := by
  obtain ⟨kd, sz, L, hK, ⟨ds, it, vl, di, dv, rfl, hX⟩, ⟨n, a, b, x, y, rfl, hY⟩⟩ := I
  have J : i_Rel (k + 5) (ds, kd, sz, it, vl, di, dv) (n, kd, sz, a, b, x, y) := ⟨kd, sz, L, hK, ⟨ds, it, vl, di, dv, rfl, hX⟩, ⟨n, a, b, x, y, rfl, hY⟩⟩
  by_cases c1 : ∃ p, p < 8 ∧ v1 = nI p
  · obtain ⟨f, hf, rfl⟩ := c1
    by_cases c2 : ∃ p, p < 8 ∧ v2 = nI p
    · obtain ⟨g, hg, rfl⟩ := c2
      by_cases c3 : ∃ p, p < 8 ∧ v4 = nI p
      · obtain ⟨t, ht, rfl⟩ := c3
        by_cases d1 : v3 < 0
        · skip
          unfold wpX_merge
          refine ps_xP1 hf (br_f ps_10 (ps_xP1 hg (br_f ps_10 (ps_xP1 ht (br_f ps_10 (br_t d1 ?_))))))
          unfold wpY_merge
          exact ps_yP1 hf (br_f ps_10 (ps_yP1 hg (br_f ps_10 (ps_yP1 ht (br_f ps_10 (br_t d1 ⟨rfl, J⟩))))))
        · by_cases d2 : v3 ≤ 5
          · by_cases c4 : kd f = 1
            · by_cases c5 : kd g = 1
              · obtain ⟨h, hh, rfl⟩ := nI_of2 (M := 5) (n := 5) (by decide) d1 d2
                have sf := (ps_kok_1 (hK f hf).2 c4).2
                have sg := (ps_kok_1 (hK g hg).2 c5).2
                have hLf := ps_K_le hK f hf
                have hLg := ps_K_le hK g hg
                have ml := ps_mg_len h ((L f).length + (L g).length) (L f) (L g)
                exact ps_xmerge hK hX hf hg ht (by omega) c4 c5 (by omega) (fun r u' o => ps_ymerge hK hY hf hg ht (by omega) c4 c5 (fun r' v' o' => ps_fin hK (fun q => Or.inr (Or.inl ⟨rfl, q, (ps_mg_ok h _ (L f) (L g) (Nat.le_refl _) sf sg).1⟩)) o o'))
              · skip
                unfold wpX_merge
                refine ps_xP1 hf (br_f ps_10 (ps_xP1 hg (br_f ps_10 (ps_xP1 ht (br_f ps_10 (br_f d1 (br_t d2 ⟨ps_in8 hf, ?_⟩)))))))
                rw [ps_cl8 hf, ps_cl8 hg]
                refine br_t c4 ⟨ps_in8 hg, br_f c5 ?_⟩
                unfold wpY_merge
                refine ps_yP1 hf (br_f ps_10 (ps_yP1 hg (br_f ps_10 (ps_yP1 ht (br_f ps_10 (br_f d1 (br_t d2 ⟨ps_in8 hf, ?_⟩)))))))
                rw [ps_cl8 hf, ps_cl8 hg]
                exact br_t c4 ⟨ps_in8 hg, br_f c5 ⟨rfl, J⟩⟩
            · skip
              unfold wpX_merge
              refine ps_xP1 hf (br_f ps_10 (ps_xP1 hg (br_f ps_10 (ps_xP1 ht (br_f ps_10 (br_f d1 (br_t d2 ⟨ps_in8 hf, ?_⟩)))))))
              rw [ps_cl8 hf]
              refine br_f c4 ?_
              unfold wpY_merge
              refine ps_yP1 hf (br_f ps_10 (ps_yP1 hg (br_f ps_10 (ps_yP1 ht (br_f ps_10 (br_f d1 (br_t d2 ⟨ps_in8 hf, ?_⟩)))))))
              rw [ps_cl8 hf]
              exact br_f c4 ⟨rfl, J⟩
          · skip
            unfold wpX_merge
            refine ps_xP1 hf (br_f ps_10 (ps_xP1 hg (br_f ps_10 (ps_xP1 ht (br_f ps_10 (br_f d1 (br_f d2 ?_)))))))
            unfold wpY_merge
            exact ps_yP1 hf (br_f ps_10 (ps_yP1 hg (br_f ps_10 (ps_yP1 ht (br_f ps_10 (br_f d1 (br_f d2 ⟨rfl, J⟩)))))))
      · skip
        unfold wpX_merge
        refine ps_xP1 hf (br_f ps_10 (ps_xP1 hg (br_f ps_10 (ps_xP0 c3 (br_t rfl ?_)))))
        unfold wpY_merge
        exact ps_yP1 hf (br_f ps_10 (ps_yP1 hg (br_f ps_10 (ps_yP0 c3 (br_t rfl ⟨rfl, J⟩)))))
    · skip
      unfold wpX_merge
      refine ps_xP1 hf (br_f ps_10 (ps_xP0 c2 (br_t rfl ?_)))
      unfold wpY_merge
      exact ps_yP1 hf (br_f ps_10 (ps_yP0 c2 (br_t rfl ⟨rfl, J⟩)))
  · skip
    unfold wpX_merge
    refine ps_xP0 c1 (br_t rfl ?_)
    unfold wpY_merge
    exact ps_yP0 c1 (br_t rfl ⟨rfl, J⟩)
theorem i_vc_convert {k : Nat} {u : SX} {v : SY} (I : i_Rel k u v) (hk : k + 5 ≤ 2560) (v1 : Int32) (v2 : Int32) (v3 : Int32) : wpX_convert (fun r u' => wpY_convert (fun r' v' => r' = r ∧ i_Rel (k + 5) u' v') v v1 v2 v3) u v1 v2 v3 := by
  obtain ⟨kd, sz, L, hK, ⟨ds, it, vl, di, dv, rfl, hX⟩, ⟨n, a, b, x, y, rfl, hY⟩⟩ := I
  have J : i_Rel (k + 5) (ds, kd, sz, it, vl, di, dv) (n, kd, sz, a, b, x, y) := ⟨kd, sz, L, hK, ⟨ds, it, vl, di, dv, rfl, hX⟩, ⟨n, a, b, x, y, rfl, hY⟩⟩
  by_cases c1 : ∃ p, p < 8 ∧ v1 = nI p
  · obtain ⟨f, hf, rfl⟩ := c1
    by_cases c2 : ∃ p, p < 8 ∧ v3 = nI p
    · obtain ⟨t, ht, rfl⟩ := c2
      by_cases d1 : v2 < 0
      · skip
        unfold wpX_convert
        refine ps_xP1 hf (br_f ps_10 (ps_xP1 ht (br_f ps_10 (br_t d1 ?_))))
        unfold wpY_convert
        exact ps_yP1 hf (br_f ps_10 (ps_yP1 ht (br_f ps_10 (br_t d1 ⟨rfl, J⟩))))
      · by_cases d2 : v2 ≤ 3
        · obtain ⟨w, hw, rfl⟩ := nI_of2 (M := 3) (n := 3) (by decide) d1 d2
          by_cases d3 : w < 2
          · by_cases c3 : kd f = 1
            · exact ps_xcv1 hK hX hf ht d3 c3 (fun r u' o => ps_ycv1 hK hY hf ht d3 c3 (fun r' v' o' => ps_fin hK (fun q => Or.inr (Or.inr ⟨rfl, q, ps_z_aq _ ps_z_n (fun _ => ps_z_1 _)⟩)) o o'))
            · have Yk : wpY_convert (fun r' v' => r' = -2 ∧ i_Rel (k + 5) (ds, kd, sz, it, vl, di, dv) v') (n, kd, sz, a, b, x, y) (nI f) (nI w) (nI t) := by
                unfold wpY_convert
                refine ps_yP1 hf (br_f ps_10 (ps_yP1 ht (br_f ps_10 (br_f d1 (br_t d2 ⟨ps_in8 hf, ?_⟩)))))
                rw [ps_cl8 hf]
                exact br_f (nI_ge (b := 2) (by omega) (by decide)) (br_f c3 ⟨rfl, J⟩)
              have g : wX_convert_41 (fun r u' => wpY_convert (fun r' v' => r' = r ∧ i_Rel (k + 5) u' v') (n, kd, sz, a, b, x, y) (nI f) (nI w) (nI t)) (nI f) (nI w) (nI t) 1 ds kd sz it vl di dv := by
                refine ⟨ps_in8 hf, br_f ps_10 ?_⟩
                rw [ps_cl8 hf]
                exact br_f c3 Yk
              unfold wpX_convert
              refine ps_xP1 hf (br_f ps_10 (ps_xP1 ht (br_f ps_10 (br_f d1 (br_t d2 ?_)))))
              exact pk_eq w 0 (fun _ => g) (fun c => br_t (by rw [show w = 1 by omega]; rfl) g)
          · by_cases c3 : kd f = 2
            · refine ps_xcv2 hK hX hf ht (by omega) (by omega) c3 (fun r u' o => ps_ycv2 hK hY hf ht (by omega) (by omega) c3 (fun r' v' o' => ?_))
              rw [← ps_txy w (L f)] at o'
              exact ps_fin hK (fun q => Or.inr (Or.inl ⟨rfl, q, ps_tx_srt w (L f) _⟩)) o o'
            · have Yk : wpY_convert (fun r' v' => r' = -2 ∧ i_Rel (k + 5) (ds, kd, sz, it, vl, di, dv) v') (n, kd, sz, a, b, x, y) (nI f) (nI w) (nI t) := by
                unfold wpY_convert
                refine ps_yP1 hf (br_f ps_10 (ps_yP1 ht (br_f ps_10 (br_f d1 (br_t d2 ⟨ps_in8 hf, ?_⟩)))))
                rw [ps_cl8 hf]
                exact br_t (nI_le (a := 2) (by omega) (by omega)) (br_f c3 ⟨rfl, J⟩)
              have g : wX_convert_41 (fun r u' => wpY_convert (fun r' v' => r' = r ∧ i_Rel (k + 5) u' v') (n, kd, sz, a, b, x, y) (nI f) (nI w) (nI t)) (nI f) (nI w) (nI t) 0 ds kd sz it vl di dv := by
                refine ⟨ps_in8 hf, br_t rfl ?_⟩
                rw [ps_cl8 hf]
                exact br_f c3 Yk
              unfold wpX_convert
              refine ps_xP1 hf (br_f ps_10 (ps_xP1 ht (br_f ps_10 (br_f d1 (br_t d2 ?_)))))
              exact pk_eq w 0 (fun c => absurd c (by omega)) (fun _ => pk_eq w 1 (fun c => absurd c (by omega)) (fun _ => g))
        · skip
          unfold wpX_convert
          refine ps_xP1 hf (br_f ps_10 (ps_xP1 ht (br_f ps_10 (br_f d1 (br_f d2 ?_)))))
          unfold wpY_convert
          exact ps_yP1 hf (br_f ps_10 (ps_yP1 ht (br_f ps_10 (br_f d1 (br_f d2 ⟨rfl, J⟩)))))
    · skip
      unfold wpX_convert
      refine ps_xP1 hf (br_f ps_10 (ps_xP0 c2 (br_t rfl ?_)))
      unfold wpY_convert
      exact ps_yP1 hf (br_f ps_10 (ps_yP0 c2 (br_t rfl ⟨rfl, J⟩)))
  · skip
    unfold wpX_convert
    refine ps_xP0 c1 (br_t rfl ?_)
    unfold wpY_convert
    exact ps_yP0 c1 (br_t rfl ⟨rfl, J⟩)
theorem i_vc_value {k : Nat} {u : SX} {v : SY} (I : i_Rel k u v) (hk : k + 5 ≤ 2560) (v1 : Int32) (v2 : Int32) : wpX_value (fun r => wpY_value (fun r' => r' = r ∧ i_Rel (k + 5) u v) v v1 v2) u v1 v2 := by
  obtain ⟨kd, sz, L, hK, ⟨ds, it, vl, di, dv, rfl, hX⟩, ⟨n, a, b, x, y, rfl, hY⟩⟩ := I
  have J : i_Rel (k + 5) (ds, kd, sz, it, vl, di, dv) (n, kd, sz, a, b, x, y) := ⟨kd, sz, L, hK, ⟨ds, it, vl, di, dv, rfl, hX⟩, ⟨n, a, b, x, y, rfl, hY⟩⟩
  by_cases c1 : ∃ p, p < 8 ∧ v1 = nI p
  · obtain ⟨f, hf, rfl⟩ := c1
    by_cases c3 : kd f = 1
    · exact ps_xval hK hX hf c3 (ps_yval hK hY hf c3 ⟨rfl, J⟩)
    · unfold wpX_value
      exact ps_xO hf (fun q => absurd q c3) (fun _ => br_t rfl (ps_yval_k hf c3 ⟨rfl, J⟩))
  · unfold wpX_value
    exact ps_xO0 c1 (br_t rfl (ps_yval_p c1 ⟨rfl, J⟩))
theorem i_vc_key {k : Nat} {u : SX} {v : SY} (I : i_Rel k u v) (hk : k + 5 ≤ 2560) (v1 : Int32) (v2 : Int32) : wpX_key (fun r => wpY_key (fun r' => r' = r ∧ i_Rel (k + 5) u v) v v1 v2) u v1 v2 := by
  obtain ⟨kd, sz, L, hK, ⟨ds, it, vl, di, dv, rfl, hX⟩, ⟨n, a, b, x, y, rfl, hY⟩⟩ := I
  have J : i_Rel (k + 5) (ds, kd, sz, it, vl, di, dv) (n, kd, sz, a, b, x, y) := ⟨kd, sz, L, hK, ⟨ds, it, vl, di, dv, rfl, hX⟩, ⟨n, a, b, x, y, rfl, hY⟩⟩
  unfold wpX_key
  by_cases c1 : ∃ p, p < 8 ∧ v1 = nI p
  · obtain ⟨f, hf, rfl⟩ := c1
    by_cases c3 : kd f = 1
    · by_cases c4 : v2 < 0
      · exact ps_xitem_n hf c3 c4 (ps_ykey_n hf c3 c4 ⟨rfl, J⟩)
      · obtain ⟨j, hj, rfl⟩ := nI_of c4
        exact ps_xitem hK hX hf c3 hj (fun q => ps_ykey hK hY hf c3 hj (fun _ => ⟨rfl, J⟩) (fun z => absurd q z)) (fun q => ps_ykey hK hY hf c3 hj (fun z => absurd z q) (fun _ => ⟨rfl, J⟩))
    · exact ps_xitem_k hf c3 (ps_ykey_k hf c3 ⟨rfl, J⟩)
  · exact ps_xitem_p c1 (ps_ykey_p c1 ⟨rfl, J⟩)
theorem i_vc_at {k : Nat} {u : SX} {v : SY} (I : i_Rel k u v) (hk : k + 5 ≤ 2560) (v1 : Int32) (v2 : Int32) : wpX_at (fun r => wpY_at (fun r' => r' = r ∧ i_Rel (k + 5) u v) v v1 v2) u v1 v2 := by
  obtain ⟨kd, sz, L, hK, ⟨ds, it, vl, di, dv, rfl, hX⟩, ⟨n, a, b, x, y, rfl, hY⟩⟩ := I
  have J : i_Rel (k + 5) (ds, kd, sz, it, vl, di, dv) (n, kd, sz, a, b, x, y) := ⟨kd, sz, L, hK, ⟨ds, it, vl, di, dv, rfl, hX⟩, ⟨n, a, b, x, y, rfl, hY⟩⟩
  unfold wpX_at
  by_cases c1 : ∃ p, p < 8 ∧ v1 = nI p
  · obtain ⟨f, hf, rfl⟩ := c1
    by_cases c3 : kd f = 2
    · by_cases c4 : v2 < 0
      · exact ps_xitem_n hf c3 c4 (ps_yat_n hf c3 c4 ⟨rfl, J⟩)
      · obtain ⟨j, hj, rfl⟩ := nI_of c4
        exact ps_xitem hK hX hf c3 hj (fun q => ps_yat hK hY hf c3 hj (fun _ => ⟨rfl, J⟩) (fun z => absurd q z)) (fun q => ps_yat hK hY hf c3 hj (fun z => absurd z q) (fun _ => ⟨rfl, J⟩))
    · exact ps_xitem_k hf c3 (ps_yat_k hf c3 ⟨rfl, J⟩)
  · exact ps_xitem_p c1 (ps_yat_p c1 ⟨rfl, J⟩)
theorem i_vc_sum {k : Nat} {u : SX} {v : SY} (I : i_Rel k u v) (hk : k + 5 ≤ 2560) (v1 : Int32) (v2 : Int32) (v3 : Int32) : wpX_sum (fun r => wpY_sum (fun r' => r' = r ∧ i_Rel (k + 5) u v) v v1 v2 v3) u v1 v2 v3 := by
  obtain ⟨kd, sz, L, hK, ⟨ds, it, vl, di, dv, rfl, hX⟩, ⟨n, a, b, x, y, rfl, hY⟩⟩ := I
  have J : i_Rel (k + 5) (ds, kd, sz, it, vl, di, dv) (n, kd, sz, a, b, x, y) := ⟨kd, sz, L, hK, ⟨ds, it, vl, di, dv, rfl, hX⟩, ⟨n, a, b, x, y, rfl, hY⟩⟩
  by_cases c1 : ∃ p, p < 8 ∧ v1 = nI p
  · obtain ⟨f, hf, rfl⟩ := c1
    by_cases c3 : kd f = 2
    · exact ps_xsum hK hX hf c3 (ps_ysum hK hY hf c3 ⟨rfl, J⟩)
    · unfold wpX_sum
      refine ps_xO hf (fun q => absurd q c3) (fun _ => br_t rfl ?_)
      unfold wpY_sum
      exact ps_yO hf (fun q => absurd q c3) (fun _ => br_t rfl ⟨rfl, J⟩)
  · unfold wpX_sum
    refine ps_xO0 c1 (br_t rfl ?_)
    unfold wpY_sum
    exact ps_yO0 c1 (br_t rfl ⟨rfl, J⟩)
theorem i_vc_about {k : Nat} {u : SX} {v : SY} (I : i_Rel k u v) (hk : k + 5 ≤ 2560) (v1 : Int32) (v2 : Int32) : wpX_about (fun r => wpY_about (fun r' => r' = r ∧ i_Rel (k + 5) u v) v v1 v2) u v1 v2 := by
  obtain ⟨kd, sz, L, hK, ⟨ds, it, vl, di, dv, rfl, hX⟩, ⟨n, a, b, x, y, rfl, hY⟩⟩ := I
  have J : i_Rel (k + 5) (ds, kd, sz, it, vl, di, dv) (n, kd, sz, a, b, x, y) := ⟨kd, sz, L, hK, ⟨ds, it, vl, di, dv, rfl, hX⟩, ⟨n, a, b, x, y, rfl, hY⟩⟩
  by_cases c1 : ∃ p, p < 8 ∧ v1 = nI p
  · obtain ⟨f, hf, rfl⟩ := c1
    by_cases d1 : v2 < 0
    · skip
      unfold wpX_about
      refine ps_xP1 hf (br_f ps_10 (br_t d1 ?_))
      unfold wpY_about
      exact ps_yP1 hf (br_f ps_10 (br_t d1 ⟨rfl, J⟩))
    · by_cases d2 : v2 ≤ 1
      · obtain ⟨w, hw, rfl⟩ := nI_of2 (M := 1) (n := 1) (by decide) d1 d2
        exact ps_xabout hf (by omega) (ps_yabout hf (by omega) ⟨rfl, J⟩)
      · skip
        unfold wpX_about
        refine ps_xP1 hf (br_f ps_10 (br_f d1 (br_f d2 ?_)))
        unfold wpY_about
        exact ps_yP1 hf (br_f ps_10 (br_f d1 (br_f d2 ⟨rfl, J⟩)))
  · skip
    unfold wpX_about
    refine ps_xP0 c1 (br_t rfl ?_)
    unfold wpY_about
    exact ps_yP0 c1 (br_t rfl ⟨rfl, J⟩)
theorem i_vc_same {k : Nat} {u : SX} {v : SY} (I : i_Rel k u v) (hk : k + 5 ≤ 2560) (v1 : Int32) (v2 : Int32) : wpX_same (fun r => wpY_same (fun r' => r' = r ∧ i_Rel (k + 5) u v) v v1 v2) u v1 v2 := by
  obtain ⟨kd, sz, L, hK, ⟨ds, it, vl, di, dv, rfl, hX⟩, ⟨n, a, b, x, y, rfl, hY⟩⟩ := I
  have J : i_Rel (k + 5) (ds, kd, sz, it, vl, di, dv) (n, kd, sz, a, b, x, y) := ⟨kd, sz, L, hK, ⟨ds, it, vl, di, dv, rfl, hX⟩, ⟨n, a, b, x, y, rfl, hY⟩⟩
  by_cases c1 : ∃ p, p < 8 ∧ v1 = nI p
  · obtain ⟨f, hf, rfl⟩ := c1
    by_cases c2 : ∃ p, p < 8 ∧ v2 = nI p
    · obtain ⟨g, hg, rfl⟩ := c2
      by_cases c3 : kd f = 0
      · skip
        unfold wpX_same
        refine ps_xP1 hf (br_f ps_10 (ps_xP1 hg (br_f ps_10 (⟨ps_in8 hf, ?_⟩))))
        rw [ps_cl8 hf]
        refine br_t c3 ?_
        unfold wpY_same
        refine ps_yP1 hf (br_f ps_10 (ps_yP1 hg (br_f ps_10 (⟨ps_in8 hf, ?_⟩))))
        rw [ps_cl8 hf]
        exact br_t c3 ⟨rfl, J⟩
      · by_cases c4 : kd f = kd g
        · by_cases c5 : sz f = sz g
          · exact ps_xsame hK hX hf hg c3 c4 c5 (fun q => ps_ysame hK hY hf hg c3 c4 c5 (fun _ => ⟨rfl, J⟩) (fun z => absurd q z)) (fun q => ps_ysame hK hY hf hg c3 c4 c5 (fun z => absurd z q) (fun _ => ⟨rfl, J⟩))
          · skip
            unfold wpX_same
            refine ps_xP1 hf (br_f ps_10 (ps_xP1 hg (br_f ps_10 (⟨ps_in8 hf, ?_⟩))))
            rw [ps_cl8 hf, ps_cl8 hg]
            refine br_f c3 ⟨ps_in8 hf, ps_in8 hg, br_t c4 ⟨ps_in8 hf, ps_in8 hg, br_f c5 ?_⟩⟩
            unfold wpY_same
            refine ps_yP1 hf (br_f ps_10 (ps_yP1 hg (br_f ps_10 (⟨ps_in8 hf, ?_⟩))))
            rw [ps_cl8 hf, ps_cl8 hg]
            exact br_f c3 ⟨ps_in8 hf, ps_in8 hg, br_t c4 ⟨ps_in8 hf, ps_in8 hg, br_f c5 ⟨rfl, J⟩⟩⟩
        · skip
          unfold wpX_same
          refine ps_xP1 hf (br_f ps_10 (ps_xP1 hg (br_f ps_10 (⟨ps_in8 hf, ?_⟩))))
          rw [ps_cl8 hf, ps_cl8 hg]
          refine br_f c3 ⟨ps_in8 hf, ps_in8 hg, br_f c4 ?_⟩
          unfold wpY_same
          refine ps_yP1 hf (br_f ps_10 (ps_yP1 hg (br_f ps_10 (⟨ps_in8 hf, ?_⟩))))
          rw [ps_cl8 hf, ps_cl8 hg]
          exact br_f c3 ⟨ps_in8 hf, ps_in8 hg, br_f c4 ⟨rfl, J⟩⟩
    · skip
      unfold wpX_same
      refine ps_xP1 hf (br_f ps_10 (ps_xP0 c2 (br_t rfl ?_)))
      unfold wpY_same
      exact ps_yP1 hf (br_f ps_10 (ps_yP0 c2 (br_t rfl ⟨rfl, J⟩)))
  · skip
    unfold wpX_same
    refine ps_xP0 c1 (br_t rfl ?_)
    unfold wpY_same
    exact ps_yP0 c1 (br_t rfl ⟨rfl, J⟩)
