section
variable {kd sz it vl di dv : Nat → Int32} {ds : Int32} {D : List ps_E}
theorem ps_cb_a {how : Nat} {v : Int32} (h : how = 3) : ps_cb how (some v) none = none := by unfold ps_cb; exact if_pos h
theorem ps_cb_a' {how : Nat} {v : Int32} (h : ¬ how = 3) : ps_cb how (some v) none = some v := by unfold ps_cb; exact if_neg h
theorem ps_cb_b {how : Nat} {v : Int32} (h : how = 3 ∨ how = 4) : ps_cb how none (some v) = none := by unfold ps_cb; exact if_pos h
theorem ps_cb_b' {how : Nat} {v : Int32} (h : ¬ (how = 3 ∨ how = 4)) : ps_cb how none (some v) = some v := by unfold ps_cb; exact if_neg h
theorem ps_cb_c {how : Nat} {v w : Int32} (h : how = 4 ∨ how = 5) : ps_cb how (some v) (some w) = none := by unfold ps_cb; exact if_pos h
theorem ps_cb_c' {how : Nat} {v w : Int32} (h : ¬ (how = 4 ∨ how = 5)) : ps_cb how (some v) (some w) = some (ps_vv how v w) := by unfold ps_cb; exact if_neg h
theorem ps_on (k : Int32) : ps_o k none = [] := rfl
theorem ps_os (k z : Int32) : ps_o k (some z) = [(k, z)] := rfl
theorem ps_xA {post : SX → Prop} {q how : Nat} {e : ps_E} (hh : how < 6) (hq : q < 384) (hc : ps_c it vl q e) (hd : ps_dr 48 di dv D) (hD : D.length < 1000)
    (h : ∀ di' dv', ps_dr 48 di' dv' (D ++ ps_o e.1 (ps_cb how (some e.2) none)) → post (nI (D ++ ps_o e.1 (ps_cb how (some e.2) none)).length, kd, sz, it, vl, di', dv')) :
    wpX_draftOnlyInA post (nI D.length, kd, sz, it, vl, di, dv) (nI q) (nI how) := by
  unfold wpX_draftOnlyInA
  refine pk_eq how 3 (fun c => ?_) (fun c => ⟨pk_in q 384 hq, pk_in q 384 hq, ?_⟩)
  · rw [ps_cb_a c, ps_on, List.append_nil] at h
    exact h _ _ hd
  · rw [ps_cl (by omega), hc.1, hc.2]
    rw [ps_cb_a' c, ps_os] at h
    exact ps_xD hd hD (fun di' dv' hd' => h _ _ hd')
theorem ps_xB {post : SX → Prop} {q how : Nat} {e : ps_E} (hh : how < 6) (hq : q < 384) (hc : ps_c it vl q e) (hd : ps_dr 48 di dv D) (hD : D.length < 1000)
    (h : ∀ di' dv', ps_dr 48 di' dv' (D ++ ps_o e.1 (ps_cb how none (some e.2))) → post (nI (D ++ ps_o e.1 (ps_cb how none (some e.2))).length, kd, sz, it, vl, di', dv')) :
    wpX_draftOnlyInB post (nI D.length, kd, sz, it, vl, di, dv) (nI q) (nI how) := by
  unfold wpX_draftOnlyInB
  refine pk_eq how 3 (fun c => ?_) (fun c => pk_eq how 4 (fun c2 => ?_) (fun c2 => ⟨pk_in q 384 hq, pk_in q 384 hq, ?_⟩))
  · rw [ps_cb_b (Or.inl c), ps_on, List.append_nil] at h
    exact h _ _ hd
  · rw [ps_cb_b (Or.inr c2), ps_on, List.append_nil] at h
    exact h _ _ hd
  · rw [ps_cl (by omega), hc.1, hc.2]
    rw [ps_cb_b' (by omega), ps_os] at h
    exact ps_xD hd hD (fun di' dv' hd' => h _ _ hd')
theorem ps_xC {post : SX → Prop} {q p how : Nat} {e g : ps_E} (hh : how < 6) (hq : q < 384) (hp : p < 384) (hc : ps_c it vl q e) (hg : ps_c it vl p g) (hd : ps_dr 48 di dv D) (hD : D.length < 1000)
    (h : ∀ di' dv', ps_dr 48 di' dv' (D ++ ps_o e.1 (ps_cb how (some e.2) (some g.2))) → post (nI (D ++ ps_o e.1 (ps_cb how (some e.2) (some g.2))).length, kd, sz, it, vl, di', dv')) :
    wpX_draftInBoth post (nI D.length, kd, sz, it, vl, di, dv) (nI q) (nI p) (nI how) := by
  have z : ¬ (how = 4 ∨ how = 5) → ∀ v, v = ps_vv how e.2 g.2 → wX_draftInBoth_55 post (nI q) v (nI D.length) kd sz it vl di dv := fun w v ev => by
    refine ⟨pk_in q 384 hq, ?_⟩
    rw [ps_cl (by omega), hc.1, ev]
    rw [ps_cb_c' w, ps_os] at h
    exact ps_xD hd hD (fun di' dv' hd' => h _ _ hd')
  unfold wpX_draftInBoth
  refine pk_eq how 4 (fun c => ?_) (fun c => pk_eq how 5 (fun c2 => ?_) (fun c2 => ⟨pk_in q 384 hq, fun y ey => ?_⟩))
  · rw [ps_cb_c (Or.inl c), ps_on, List.append_nil] at h
    exact h _ _ hd
  · rw [ps_cb_c (Or.inr c2), ps_on, List.append_nil] at h
    exact h _ _ hd
  · have w : ¬ (how = 4 ∨ how = 5) := by omega
    rw [ps_cl (by omega), hc.2] at ey
    refine pk_eq how 1 (fun c3 => ⟨pk_in p 384 hp, fun y2 ey2 => ?_⟩) (fun c3 => pk_eq how 2 (fun c4 => ⟨pk_in q 384 hq, pk_in p 384 hp, fun y2 ey2 => ?_⟩) (fun c4 => ?_))
    · rw [ps_cl (by omega), hg.2] at ey2
      refine z w y2 ?_
      rw [ey2]; unfold ps_vv; rw [if_pos c3]
    · rw [ps_cl (i := q) (by omega), ps_cl (i := p) (by omega), hc.2, hg.2] at ey2
      refine z w y2 ?_
      rw [ey2]; unfold ps_vv; rw [if_neg c3, if_pos c4]
    · refine z w y ?_
      rw [ey]; unfold ps_vv; rw [if_neg c3, if_neg c4]
end
section
variable {kd sz it vl : Nat → Int32} {A B : List ps_E} {a b how most : Nat} {post : SX → Prop}
theorem ps_mg_nl (n : Nat) : ps_mg how n [] [] = [] := by
  cases n <;> rw [ps_mg]
theorem ps_xM (ha : a < 8) (hb : b < 8) (hh : how < 6) (hA : A.length ≤ 48) (hB : B.length ≤ 48) (hm : most ≤ 96) (ra : ps_row it vl (48 * a) A) (rb : ps_row it vl (48 * b) B) :
    ∀ (c i j n : Nat) (D : List ps_E) (di dv : Nat → Int32), n + c = most → i ≤ A.length → j ≤ B.length → (A.length - i) + (B.length - j) ≤ c → D.length + c < 500 → ps_dr 48 di dv D →
      (∀ di' dv', ps_dr 48 di' dv' (D ++ ps_mg how c (A.drop i) (B.drop j)) → post (nI (D ++ ps_mg how c (A.drop i) (B.drop j)).length, kd, sz, it, vl, di', dv')) →
      wX_draftMerged_62 post (nI how) (nI (48 * a + A.length)) (nI (48 * b + B.length)) (nI most) (c + 1) (nI (48 * a + i)) (nI (48 * b + j)) (nI n) (nI D.length) kd sz it vl di dv := by
  intro c
  induction c with
  | zero =>
    intro i j n D di dv e hi hj hl hD hd h
    rw [show ps_mg how 0 (A.drop i) (B.drop j) = [] by rw [ps_mg], List.append_nil] at h
    exact br_t (nI_le (by omega) (by omega)) (h _ _ hd)
  | succ c ih =>
    intro i j n D di dv e hi hj hl hD hd h
    have lo : ∀ (k : Int32) (z : Option Int32), (ps_o k z).length ≤ 1 := fun k z => by cases z <;> simp [ps_o]
    -- the three turns
    have tA : i < A.length → (∀ M, ps_mg how (c + 1) (A.drop i) (B.drop j) = ps_o (ps_at A i).1 (ps_cb how (some (ps_at A i).2) none) ++ M → M = ps_mg how c (A.drop (i + 1)) (B.drop j) → True) →
        ps_mg how (c + 1) (A.drop i) (B.drop j) = ps_o (ps_at A i).1 (ps_cb how (some (ps_at A i).2) none) ++ ps_mg how c (A.drop (i + 1)) (B.drop j) →
        wX_draftMerged_114 post (wX_draftMerged_62 post (nI how) (nI (48 * a + A.length)) (nI (48 * b + B.length)) (nI most) (c + 1)) (nI how) (nI (48 * a + A.length)) (nI (48 * b + B.length)) (nI most) (nI (48 * a + i)) (nI (48 * b + j)) (nI n) (nI D.length) kd sz it vl di dv := fun h1 _ q => by
      rw [q] at h
      unfold wX_draftMerged_114
      refine ps_xA hh (by omega) (ra i h1) hd (by omega) (fun di' dv' hd' => nm_r (nI_1 _) (nm_r (nI_1 _) ?_))
      have l := lo (ps_at A i).1 (ps_cb how (some (ps_at A i).2) none)
      refine ih (i + 1) j (n + 1) _ di' dv' (by omega) (by omega) hj (by omega) (by rw [List.length_append]; omega) hd' ?_
      rw [List.append_assoc]
      exact h
    have tB : j < B.length →
        ps_mg how (c + 1) (A.drop i) (B.drop j) = ps_o (ps_at B j).1 (ps_cb how none (some (ps_at B j).2)) ++ ps_mg how c (A.drop i) (B.drop (j + 1)) →
        wX_draftMerged_151 post (wX_draftMerged_62 post (nI how) (nI (48 * a + A.length)) (nI (48 * b + B.length)) (nI most) (c + 1)) (nI how) (nI (48 * a + A.length)) (nI (48 * b + B.length)) (nI most) (nI (48 * a + i)) (nI (48 * b + j)) (nI n) (nI D.length) kd sz it vl di dv := fun h1 q => by
      rw [q] at h
      unfold wX_draftMerged_151
      refine ps_xB hh (by omega) (rb j h1) hd (by omega) (fun di' dv' hd' => nm_r (nI_1 _) (nm_r (nI_1 _) ?_))
      have l := lo (ps_at B j).1 (ps_cb how none (some (ps_at B j).2))
      refine ih i (j + 1) (n + 1) _ di' dv' (by omega) hi (by omega) (by omega) (by rw [List.length_append]; omega) hd' ?_
      rw [List.append_assoc]
      exact h
    -- the head of the turn
    refine br_f (nI_ge (by omega) (by omega)) ?_
    by_cases hi2 : i < A.length
    · refine br_t (nI_lt (by omega) (by omega)) ?_
      have ea := ps_dr1 A i hi2
      unfold wX_draftMerged_83
      refine pk_eq (48 * b + j) (48 * b + B.length) (fun c1 => ?_) (fun c1 => br_f (nI_ge (by omega) (by omega)) ?_)
      · have eb : B.drop j = [] := List.drop_eq_nil_of_le (by omega)
        refine tA hi2 (fun _ _ _ => True.intro) ?_
        rw [ea, eb, ps_mg]
      · have hj2 : j < B.length := by omega
        have eb := ps_dr1 B j hj2
        have va := ra i hi2
        have vb := rb j hj2
        have i127 : ¬ (ps_at A i).1 < (ps_at B j).1 → wX_draftMerged_127 post (wX_draftMerged_62 post (nI how) (nI (48 * a + A.length)) (nI (48 * b + B.length)) (nI most) (c + 1)) (nI how) (nI (48 * a + A.length)) (nI (48 * b + B.length)) (nI most) (nI (48 * a + i)) (nI (48 * b + j)) (nI n) (nI D.length) kd sz it vl di dv := fun nl => by
          unfold wX_draftMerged_127
          refine pk_eq (48 * a + i) (48 * a + A.length) (fun c2 => absurd c2 (by omega)) (fun c2 => ⟨pk_in (48 * b + j) 384 (by omega), pk_in (48 * a + i) 384 (by omega), ?_⟩)
          rw [ps_cl (i := 48 * a + i) (by omega), ps_cl (i := 48 * b + j) (by omega), va.1, vb.1]
          refine br_c (fun q => ?_) (fun q => ?_)
          · have nl2 : ¬ (ps_at B j).1 < (ps_at A i).1 := Int32.not_lt.mpr q
            have m : ps_mg how (c + 1) (A.drop i) (B.drop j) = ps_o (ps_at A i).1 (ps_cb how (some (ps_at A i).2) (some (ps_at B j).2)) ++ ps_mg how c (A.drop (i + 1)) (B.drop (j + 1)) := by
              rw [ea, eb, ps_mg, if_neg nl, if_neg nl2]
            rw [m] at h
            refine ps_xC hh (by omega) (by omega) va vb hd (by omega) (fun di' dv' hd' => nm_r (nI_1 _) (nm_r (nI_1 _) (nm_r (nI_1 _) ?_)))
            have l := lo (ps_at A i).1 (ps_cb how (some (ps_at A i).2) (some (ps_at B j).2))
            refine ih (i + 1) (j + 1) (n + 1) _ di' dv' (by omega) (by omega) (by omega) (by omega) (by rw [List.length_append]; omega) hd' ?_
            rw [List.append_assoc]
            exact h
          · have lt := Int32.not_le.mp q
            refine tB hj2 ?_
            rw [ea, eb, ps_mg, if_neg nl, if_pos lt]
        refine ⟨pk_in (48 * a + i) 384 (by omega), pk_in (48 * b + j) 384 (by omega), ?_⟩
        rw [ps_cl (i := 48 * a + i) (by omega), ps_cl (i := 48 * b + j) (by omega), va.1, vb.1]
        refine br_c (fun q => i127 (Int32.not_lt.mpr q)) (fun q => ?_)
        refine tA hi2 (fun _ _ _ => True.intro) ?_
        rw [ea, eb, ps_mg, if_pos (Int32.not_le.mp q)]
    · refine br_f (nI_nlt (by omega) (by omega)) ?_
      have ea : A.drop i = [] := List.drop_eq_nil_of_le (by omega)
      refine pk_le (48 * b + B.length) (48 * b + j) (fun c1 => ?_) (fun c1 => ?_)
      · have eb : B.drop j = [] := List.drop_eq_nil_of_le (by omega)
        rw [ea, eb, ps_mg_nl, List.append_nil] at h
        exact h _ _ hd
      · have hj2 : j < B.length := by omega
        have eb := ps_dr1 B j hj2
        unfold wX_draftMerged_83
        refine pk_eq (48 * b + j) (48 * b + B.length) (fun c2 => absurd c2 (by omega)) (fun c2 => br_t (nI_le (by omega) (by omega)) ?_)
        unfold wX_draftMerged_127
        refine pk_eq (48 * a + i) (48 * a + A.length) (fun c3 => tB hj2 ?_) (fun c3 => absurd c3 (by omega))
        rw [ea, eb, ps_mg]
end
section
variable {kd sz it vl di dv : Nat → Int32} {ds : Int32} {L : Nat → List ps_E} {a b t how : Nat} {post : Int32 → SX → Prop}
theorem ps_xmerge (hK : ps_K kd sz L) (hR : ps_R 48 it vl L) (ha : a < 8) (hb : b < 8) (ht : t < 8) (hh : how < 6) (h1 : kd a = 1) (h2 : kd b = 1)
    (hlen : (ps_mg how ((L a).length + (L b).length) (L a) (L b)).length < 1000)
    (h : ∀ r u', ps_out ps_X kd sz L 1 24 t (ps_mg how ((L a).length + (L b).length) (L a) (L b)) r u' → post r u') :
    wpX_merge post (ds, kd, sz, it, vl, di, dv) (nI a) (nI b) (nI how) (nI t) := by
  have hza := (hK a ha).1
  have hzb := (hK b hb).1
  have hLa := ps_K_le hK a ha
  have hLb := ps_K_le hK b hb
  unfold wpX_merge
  refine ps_xP1 ha (br_f ps_10 (ps_xP1 hb (br_f ps_10 (ps_xP1 ht (br_f ps_10 (br_f (nI_pos (by omega)) (br_t (nI_le (b := 5) (by omega) (by decide)) ⟨ps_in8 ha, ?_⟩)))))))
  rw [ps_cl8 ha, ps_cl8 hb]
  refine br_t h1 ⟨ps_in8 hb, br_t h2 (ps_xS ?_)⟩
  unfold wpX_draftMerged
  refine ps_xR ⟨ps_in8 ha, ?_⟩
  rw [ps_cl8 ha, ps_cl8 hb, hza, hzb]
  refine nm_r (nI_add _ _) (ps_xR ⟨ps_in8 hb, nm_r (nI_add _ _) ⟨ps_in8 ha, ps_in8 hb, nm_r (nI_add _ _) ⟨(L a).length + (L b).length + 1, ?_⟩⟩⟩)
  refine ps_xM (A := L a) (B := L b) ha hb hh hLa hLb (by omega) (hR a ha) (hR b hb) ((L a).length + (L b).length) 0 0 0 [] di dv (Nat.zero_add _) (Nat.zero_le _) (Nat.zero_le _) (by omega) (by simp; omega) ps_dr_n (fun di' dv' hd => ?_)
  rw [List.nil_append, List.drop_zero, List.drop_zero] at hd ⊢
  exact ps_xV (Or.inl ⟨rfl, rfl⟩) ht hR (ps_K_le hK) hd hlen (fun r u' o => by obtain ⟨_, _, _, _, _, _, _⟩ := u'; exact h _ _ o)
end
