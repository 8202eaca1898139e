theorem ps_n1 : ¬ (0 : Int32) ≤ -1 := by decide
theorem ps_n1' : (-1 : Int32) < 0 := by decide
section
variable {kd sz a b x y : Nat → Int32} {n : Int32} {L : Nat → List ps_E} {f t : Nat} {post : Int32 → Prop}
theorem ps_yval {k : Int32} (hK : ps_K kd sz L) (hR : ps_R 50 a b L) (hf : f < 8) (h1 : kd f = 1) (h : post ((ps_get k (L f)).getD 0)) : wpY_value post (n, kd, sz, a, b, x, y) (nI f) k := by
  have hz := (hK f hf).1
  have hL := ps_K_le hK f hf
  unfold wpY_value
  refine ps_yO hf (fun _ => br_f ps_10 ?_) (fun q => absurd h1 q)
  refine ps_yF hf hz (hR f hf) hL (fun i hi g => ?_) (fun g => ?_)
  · refine br_t (nI_pos' (by omega)) ⟨ps_inY hf (by omega), ?_⟩
    rw [ps_clY hf (by omega), (hR f hf i hi).2]
    rw [g] at h
    exact h
  · rw [g] at h
    exact br_f ps_n1 h
theorem ps_yval_k {k : Int32} (hf : f < 8) (h1 : ¬ kd f = 1) (h : post 0) : wpY_value post (n, kd, sz, a, b, x, y) (nI f) k := by
  unfold wpY_value
  exact ps_yO hf (fun q => absurd q h1) (fun _ => br_t rfl (br_f ps_n1 h))
theorem ps_yval_p {k z : Int32} (hx : ¬ ∃ p, p < 8 ∧ z = nI p) (h : post 0) : wpY_value post (n, kd, sz, a, b, x, y) z k := by
  unfold wpY_value
  exact ps_yO0 hx (br_t rfl (br_f ps_n1 h))
theorem ps_ykey {j : Nat} (hK : ps_K kd sz L) (hR : ps_R 50 a b L) (hf : f < 8) (hk : kd f = 1) (hj : j < 2 ^ 31) (hy : j < (L f).length → post (ps_at (L f) j).1) (hn : ¬ j < (L f).length → post 0) :
    wpY_key post (n, kd, sz, a, b, x, y) (nI f) (nI j) := by
  have hz := (hK f hf).1
  have hL := ps_K_le hK f hf
  unfold wpY_key
  refine ps_yO hf (fun _ => br_f ps_10 (br_f (nI_pos hj) ⟨ps_in8 hf, ?_⟩)) (fun q => absurd hk q)
  rw [ps_cl8 hf, hz]
  refine pk_le (L f).length j (fun c => hn (by omega)) (fun c => ⟨ps_inY hf (by omega), ?_⟩)
  rw [ps_clY hf (by omega), (hR f hf j c).1]
  exact hy c
theorem ps_ykey_k {i : Int32} (hf : f < 8) (hk : ¬ kd f = 1) (h : post 0) : wpY_key post (n, kd, sz, a, b, x, y) (nI f) i := by
  unfold wpY_key
  exact ps_yO hf (fun q => absurd q hk) (fun _ => br_t rfl h)
theorem ps_ykey_p {i z : Int32} (hx : ¬ ∃ p, p < 8 ∧ z = nI p) (h : post 0) : wpY_key post (n, kd, sz, a, b, x, y) z i := by
  unfold wpY_key
  exact ps_yO0 hx (br_t rfl h)
theorem ps_ykey_n {i : Int32} (hf : f < 8) (hk : kd f = 1) (hi : i < 0) (h : post 0) : wpY_key post (n, kd, sz, a, b, x, y) (nI f) i := by
  unfold wpY_key
  exact ps_yO hf (fun _ => br_f ps_10 (br_t hi h)) (fun q => absurd hk q)
theorem ps_yat {j : Nat} (hK : ps_K kd sz L) (hR : ps_R 50 a b L) (hf : f < 8) (hk : kd f = 2) (hj : j < 2 ^ 31) (hy : j < (L f).length → post (ps_at (L f) j).1) (hn : ¬ j < (L f).length → post 0) :
    wpY_at post (n, kd, sz, a, b, x, y) (nI f) (nI j) := by
  have hz := (hK f hf).1
  have hL := ps_K_le hK f hf
  unfold wpY_at
  refine ps_yO hf (fun _ => br_f ps_10 (br_f (nI_pos hj) ⟨ps_in8 hf, ?_⟩)) (fun q => absurd hk q)
  rw [ps_cl8 hf, hz]
  refine pk_le (L f).length j (fun c => hn (by omega)) (fun c => ⟨ps_inY hf (by omega), ?_⟩)
  rw [ps_clY hf (by omega), (hR f hf j c).1]
  exact hy c
theorem ps_yat_k {i : Int32} (hf : f < 8) (hk : ¬ kd f = 2) (h : post 0) : wpY_at post (n, kd, sz, a, b, x, y) (nI f) i := by
  unfold wpY_at
  exact ps_yO hf (fun q => absurd q hk) (fun _ => br_t rfl h)
theorem ps_yat_p {i z : Int32} (hx : ¬ ∃ p, p < 8 ∧ z = nI p) (h : post 0) : wpY_at post (n, kd, sz, a, b, x, y) z i := by
  unfold wpY_at
  exact ps_yO0 hx (br_t rfl h)
theorem ps_yat_n {i : Int32} (hf : f < 8) (hk : kd f = 2) (hi : i < 0) (h : post 0) : wpY_at post (n, kd, sz, a, b, x, y) (nI f) i := by
  unfold wpY_at
  exact ps_yO hf (fun _ => br_f ps_10 (br_t hi h)) (fun q => absurd hk q)
theorem ps_yabout {w : Nat} (hf : f < 8) (hw : w < 2) (h : post (if w = 0 then kd f else sz f)) : wpY_about post (n, kd, sz, a, b, x, y) (nI f) (nI w) := by
  unfold wpY_about
  refine ps_yP1 hf (br_f ps_10 (br_f (nI_pos (by omega)) (br_t (nI_le (b := 1) (by omega) (by decide)) ?_)))
  rw [ps_cl8 hf]
  refine pk_eq w 0 (fun c => ⟨ps_in8 hf, ?_⟩) (fun c => ⟨ps_in8 hf, ?_⟩)
  · rw [if_pos c] at h; exact h
  · rw [if_neg c] at h; exact h
theorem ps_ysal {g : Nat} (hK : ps_K kd sz L) (hR : ps_R 50 a b L) (hf : f < 8) (hg : g < 8) (hlen : (L f).length = (L g).length) (hL : (L f).length ≤ 48) (h2 : ¬ kd f = 1 → ∀ s, (ps_at (L f) s).2 = (ps_at (L g) s).2) :
    ∀ (c s : Nat), s + c = (L f).length → (ps_agr (L f) (L g) s → post 1) → (¬ ps_agr (L f) (L g) s → post 0) → wY_same_57 post (nI f) (nI g) n kd sz a b x y (c + 1) (nI s) := by
  have hz := (hK f hf).1
  intro c
  induction c with
  | zero =>
    intro s e hy hn
    refine ⟨ps_in8 hf, ?_⟩
    rw [ps_cl8 hf, hz]
    exact br_t (nI_le (by omega) (by omega)) (hy (fun k h1 h2 => absurd h1 (by omega)))
  | succ c ih =>
    intro s e hy hn
    have i1 : s < 50 := by omega
    have ra := hR f hf s (by omega)
    have rb := hR g hg s (by omega)
    have go : (ps_at (L f) s).1 = (ps_at (L g) s).1 → (ps_at (L f) s).2 = (ps_at (L g) s).2 → wY_same_57 post (nI f) (nI g) n kd sz a b x y (c + 1) (nI (s + 1)) := fun q1 q2 => by
      have w := ps_agr_1 (Prod.ext q1 q2)
      exact ih (s + 1) (by omega) (fun z => hy (w.mpr z)) (fun z => hn (fun y => z (w.mp y)))
    refine ⟨ps_in8 hf, ?_⟩
    rw [ps_cl8 hf, hz]
    refine br_f (nI_ge (by omega) (by omega)) ⟨ps_inY hf i1, ps_inY hg i1, ?_⟩
    rw [ps_clY hf i1, ps_clY hg i1, ra.1, rb.1, ra.2, rb.2]
    refine br_c (fun q1 => ⟨ps_in8 hf, br_c (fun k1 => ⟨ps_inY hf i1, ps_inY hg i1, br_c (fun q2 => nm_r (nI_1 s) (go q1 q2)) (fun q2 => ?_)⟩) (fun k1 => nm_r (nI_1 s) (go q1 (h2 k1 s)))⟩) (fun q1 => ?_)
    · exact hn (fun z => q2 (congrArg Prod.snd (z s (Nat.le_refl _) (by omega))))
    · exact hn (fun z => q1 (congrArg Prod.fst (z s (Nat.le_refl _) (by omega))))
theorem ps_ysame {g : Nat} (hK : ps_K kd sz L) (hR : ps_R 50 a b L) (hf : f < 8) (hg : g < 8) (h0 : ¬ kd f = 0) (hk : kd f = kd g) (hs : sz f = sz g) (hy : ps_agr (L f) (L g) 0 → post 1) (hn : ¬ ps_agr (L f) (L g) 0 → post 0) :
    wpY_same post (n, kd, sz, a, b, x, y) (nI f) (nI g) := by
  have hz := (hK f hf).1
  have hL := ps_K_le hK f hf
  have hLg := ps_K_le hK g hg
  have hlen : (L f).length = (L g).length := by
    have e : nI (L f).length = nI (L g).length := by rw [← hz, ← (hK g hg).1]; exact hs
    exact (nI_eq (by omega) (by omega)).mp e
  have h2 : ¬ kd f = 1 → ∀ s, (ps_at (L f) s).2 = (ps_at (L g) s).2 := fun k1 s => by
    have kf : kd f = 2 := by
      rcases (hK f hf).2 with q | q | q
      · exact absurd q.1 h0
      · exact absurd q.1 k1
      · exact q.1
    rw [ps_z_at (ps_kok_2 (hK f hf).2 kf).2 s, ps_z_at (ps_kok_2 (hK g hg).2 (hk.symm.trans kf)).2 s]
  unfold wpY_same
  refine ps_yP1 hf (br_f ps_10 (ps_yP1 hg (br_f ps_10 ⟨ps_in8 hf, ?_⟩)))
  rw [ps_cl8 hf, ps_cl8 hg]
  exact br_f h0 ⟨ps_in8 hf, ps_in8 hg, br_t hk ⟨ps_in8 hf, ps_in8 hg, br_t hs ⟨(L f).length + 1, ps_ysal hK hR hf hg hlen hL h2 (L f).length 0 (Nat.zero_add _) hy hn⟩⟩⟩
end
section
variable {kd sz a b x y : Nat → Int32} {n : Int32} {L : Nat → List ps_E} {f t : Nat} {post : Int64 → Prop}
theorem ps_yul {i j : Int32} (hK : ps_K kd sz L) (hR : ps_R 50 a b L) (hf : f < 8) (h : post (ps_sy (L f) i j (L f).length)) :
    ∀ (c s : Nat), s + c = (L f).length → wY_sum_18 post (nI f) i j n kd sz a b x y (c + 1) (ps_sy (L f) i j s) (nI s) := by
  have hz := (hK f hf).1
  have hL := ps_K_le hK f hf
  intro c
  induction c with
  | zero =>
    intro s e
    have q : s = (L f).length := by omega
    subst q
    refine ⟨ps_in8 hf, ?_⟩
    rw [ps_cl8 hf, hz]
    exact br_t (Int32.le_refl _) h
  | succ c ih =>
    intro s e
    have i1 : s < 50 := by omega
    have w := ih (s + 1) (by omega)
    refine ⟨ps_in8 hf, ?_⟩
    rw [ps_cl8 hf, hz]
    refine br_f (nI_ge (by omega) (by omega)) (br_c (fun q => nm_r (nI_1 s) ?_) (fun q => br_c (fun q2 => nm_r (nI_1 s) ?_) (fun q2 => ⟨ps_inY hf i1, ?_⟩)))
    · rw [ps_sy_n (fun z => absurd (Int32.lt_of_lt_of_le q z.1) Int32.lt_irrefl)] at w
      exact w
    · rw [ps_sy_n (fun z => absurd (Int32.lt_of_lt_of_le z.2 q2) Int32.lt_irrefl)] at w
      exact w
    · rw [ps_clY hf i1, (hR f hf s (by omega)).1]
      rw [ps_sy_y ⟨Int32.not_lt.mp q, Int32.not_le.mp q2⟩] at w
      exact nm_e (nm_r (nI_1 s) w)
theorem ps_ysum {i j : Int32} (hK : ps_K kd sz L) (hR : ps_R 50 a b L) (hf : f < 8) (h2 : kd f = 2) (h : post (ps_sy (L f) i j (L f).length)) :
    wpY_sum post (n, kd, sz, a, b, x, y) (nI f) i j := by
  unfold wpY_sum
  exact ps_yO hf (fun _ => br_f ps_10 ⟨(L f).length + 1, ps_yul hK hR hf h (L f).length 0 (Nat.zero_add _)⟩) (fun q => absurd h2 q)
end
