section
variable {kd sz it vl di dv : Nat → Int32} {ds : Int32} {L : Nat → List ps_E} {f t : Nat} {post : Int32 → Prop}
theorem ps_xval {k : Int32} (hK : ps_K kd sz L) (hR : ps_R 48 it vl L) (hf : f < 8) (h1 : kd f = 1) (h : post ((ps_get k (L f)).getD 0)) : wpX_value post (ds, kd, sz, it, vl, di, dv) (nI f) k := by
  have hz := (hK f hf).1
  have hL := ps_K_le hK f hf
  have b := ps_kb_le k (L f)
  have hs := (ps_kok_1 (hK f hf).2 h1).2
  unfold wpX_value
  refine ps_xO hf (fun _ => br_f ps_10 ?_) (fun q => absurd h1 q)
  refine ps_xR ⟨ps_in8 hf, ?_⟩
  rw [ps_cl8 hf, hz]
  refine ps_xK hf (hR f hf) hL ?_
  refine ps_xH hf hz (hR f hf) hL (fun q => br_f ps_10 ?_) (fun q => br_t rfl ?_)
  · have q1 := q.1
    refine ⟨ps_inX hf (by omega), ?_⟩
    rw [ps_clX hf (by omega), (hR f hf _ q1).2]
    rw [ps_get_hit k _ q] at h
    exact h
  · rw [ps_get_nhit k _ hs q] at h
    exact h
theorem ps_xitem {kind : Int32} {j : Nat} (hK : ps_K kd sz L) (hR : ps_R 48 it vl L) (hf : f < 8) (hk : kd f = kind) (hj : j < 2 ^ 31) (hy : j < (L f).length → post (ps_at (L f) j).1) (hn : ¬ j < (L f).length → post 0) :
    wpX_itemOf post (ds, kd, sz, it, vl, di, dv) (nI f) kind (nI j) := by
  have hz := (hK f hf).1
  have hL := ps_K_le hK f hf
  unfold wpX_itemOf
  refine ps_xO hf (fun _ => br_f ps_10 (br_f (nI_pos hj) ⟨ps_in8 hf, ?_⟩)) (fun q => absurd hk q)
  rw [ps_cl8 hf, hz]
  refine pk_lt j (L f).length (fun c => ?_) (fun c => hn (by omega))
  refine ps_xR ⟨ps_inX hf (by omega), ?_⟩
  rw [ps_clX hf (by omega), (hR f hf j c).1]
  exact hy c
theorem ps_xitem_k {kind i : Int32} (hf : f < 8) (hk : ¬ kd f = kind) (h : post 0) : wpX_itemOf post (ds, kd, sz, it, vl, di, dv) (nI f) kind i := by
  unfold wpX_itemOf
  exact ps_xO hf (fun q => absurd q hk) (fun _ => br_t rfl h)
theorem ps_xitem_p {kind i x : Int32} (hx : ¬ ∃ p, p < 8 ∧ x = nI p) (h : post 0) : wpX_itemOf post (ds, kd, sz, it, vl, di, dv) x kind i := by
  unfold wpX_itemOf
  exact ps_xO0 hx (br_t rfl h)
theorem ps_xitem_n {kind i : Int32} (hf : f < 8) (hk : kd f = kind) (hi : i < 0) (h : post 0) : wpX_itemOf post (ds, kd, sz, it, vl, di, dv) (nI f) kind i := by
  unfold wpX_itemOf
  exact ps_xO hf (fun _ => br_f ps_10 (br_t hi h)) (fun q => absurd hk q)
theorem ps_xabout {w : Nat} (hf : f < 8) (hw : w < 2) (h : post (if w = 0 then kd f else sz f)) : wpX_about post (ds, kd, sz, it, vl, di, dv) (nI f) (nI w) := by
  unfold wpX_about
  refine ps_xP1 hf (br_f ps_10 (br_f (nI_pos (by omega)) (br_t (nI_le (b := 1) (by omega) (by decide)) ?_)))
  rw [ps_cl8 hf]
  refine pk_eq w 0 (fun c => ⟨ps_in8 hf, ?_⟩) (fun c => ⟨ps_in8 hf, ?_⟩)
  · rw [if_pos c] at h; exact h
  · rw [if_neg c] at h; exact h
/-- the pairs from c on agree -/
def ps_agr (A B : List ps_E) (c : Nat) : Prop := ∀ k, c ≤ k → k < A.length → ps_at A k = ps_at B k
theorem ps_agr_1 {A B : List ps_E} {c : Nat} (h : ps_at A c = ps_at B c) : ps_agr A B c ↔ ps_agr A B (c + 1) :=
  ⟨fun q k h1 h2 => q k (by omega) h2, fun q k h1 h2 => by
    by_cases w : k = c
    · rw [w]; exact h
    · exact q k (by omega) h2⟩
theorem ps_xsl {g : Nat} (hR : ps_R 48 it vl L) (hf : f < 8) (hg : g < 8) (hlen : (L f).length = (L g).length) (hL : (L f).length ≤ 48) :
    ∀ (c s : Nat), s + c = (L f).length → (ps_agr (L f) (L g) s → post 1) → (¬ ps_agr (L f) (L g) s → post 0) → wX_same_83 post (nI (48 * f)) (nI (48 * g)) (nI (L f).length) ds kd sz it vl di dv (c + 1) (nI s) := by
  intro c
  induction c with
  | zero =>
    intro s e hy hn
    exact br_t (nI_le (by omega) (by omega)) (hy (fun k h1 h2 => absurd h1 (by omega)))
  | succ c ih =>
    intro s e hy hn
    have i1 : s < 48 := by omega
    have ra := hR f hf s (by omega)
    have rb := hR g hg s (by omega)
    refine br_f (nI_ge (by omega) (by omega)) ⟨ps_inX hf i1, ps_inX hg i1, ?_⟩
    rw [ps_clX hf i1, ps_clX hg i1, ra.1, rb.1, ra.2, rb.2]
    refine br_c (fun q1 => ⟨ps_inX hf i1, ps_inX hg i1, br_c (fun q2 => nm_r (nI_1 s) ?_) (fun q2 => ?_)⟩) (fun q1 => ?_)
    · have w := ps_agr_1 (Prod.ext q1 q2)
      exact ih (s + 1) (by omega) (fun z => hy (w.mpr z)) (fun z => hn (fun y => z (w.mp y)))
    · exact hn (fun z => q2 (congrArg Prod.snd (z s (Nat.le_refl _) (by omega))))
    · exact hn (fun z => q1 (congrArg Prod.fst (z s (Nat.le_refl _) (by omega))))
theorem ps_xsame {g : Nat} (hK : ps_K kd sz L) (hR : ps_R 48 it vl L) (hf : f < 8) (hg : g < 8) (h0 : ¬ kd f = 0) (hk : kd f = kd g) (hs : sz f = sz g) (hy : ps_agr (L f) (L g) 0 → post 1) (hn : ¬ ps_agr (L f) (L g) 0 → post 0) :
    wpX_same post (ds, kd, sz, it, vl, di, dv) (nI f) (nI g) := by
  have hz := (hK f hf).1
  have hL := ps_K_le hK f hf
  have hLg := ps_K_le hK g hg
  have hlen : (L f).length = (L g).length := by
    have e : nI (L f).length = nI (L g).length := by rw [← hz, ← (hK g hg).1]; exact hs
    exact (nI_eq (by omega) (by omega)).mp e
  unfold wpX_same
  refine ps_xP1 hf (br_f ps_10 (ps_xP1 hg (br_f ps_10 ⟨ps_in8 hf, ?_⟩)))
  rw [ps_cl8 hf, ps_cl8 hg]
  refine br_f h0 ⟨ps_in8 hf, ps_in8 hg, br_t hk ⟨ps_in8 hf, ps_in8 hg, br_t hs ?_⟩⟩
  refine ps_xR ?_
  refine ps_xR ⟨ps_in8 hf, ?_⟩
  rw [hz]
  exact nm_e ⟨(L f).length + 1, ps_xsl hR hf hg hlen hL (L f).length 0 (Nat.zero_add _) hy hn⟩
end
section
variable {kd sz it vl di dv : Nat → Int32} {ds : Int32} {L : Nat → List ps_E} {f t : Nat} {post : Int64 → Prop}
theorem ps_xul {i j E : Int32} {s0 : Nat} (hR : ps_R 48 it vl L) (hf : f < 8) (hL : (L f).length ≤ 48) (hE : ∀ k, k < (L f).length → (nI k < E ↔ nI k < j)) (hE2 : E ≤ nI (L f).length) (hi : ∀ k, s0 ≤ k → k < (L f).length → i ≤ nI k) (h : post (ps_sy (L f) i j (L f).length)) :
    ∀ (c s : Nat), s + c = (L f).length → s0 ≤ s → wX_sum_58 post (nI (48 * f)) E ds kd sz it vl di dv (c + 1) (ps_sy (L f) i j s) (nI s) := by
  have out : ∀ s, s ≤ (L f).length → E ≤ nI s → post (ps_sy (L f) i j s) := fun s hs q => by
    obtain ⟨d, hd⟩ : ∃ d, (L f).length = s + d := ⟨(L f).length - s, by omega⟩
    have w := ps_sy_c (L f) i j s d (fun k h1 h2 => fun z => by
      have a := (hE k (by omega)).mpr z.2
      have b : nI s ≤ nI k := nI_le h1 (by omega)
      exact absurd (Int32.lt_of_lt_of_le a (Int32.le_trans q b)) Int32.lt_irrefl)
    rw [hd, w] at h
    exact h
  intro c
  induction c with
  | zero =>
    intro s e hs
    have q : s = (L f).length := by omega
    rw [← q] at hE2
    exact br_t hE2 (out s (by omega) hE2)
  | succ c ih =>
    intro s e hs
    have i1 : s < 48 := by omega
    have r := hR f hf s (by omega)
    refine br_c (fun q => out s (by omega) q) (fun q => ⟨ps_inX hf i1, ?_⟩)
    rw [ps_clX hf i1, r.1]
    have y : ps_sy (L f) i j (s + 1) = ps_sy (L f) i j s + (ps_at (L f) s).1.toInt64 := ps_sy_y ⟨hi s hs (by omega), (hE s (by omega)).mp (Int32.not_le.mp q)⟩
    exact nm_r y.symm (nm_r (nI_1 s) (ih (s + 1) (by omega) (by omega)))
theorem ps_xu2 {i j E : Int32} {s0 : Nat} (hR : ps_R 48 it vl L) (hf : f < 8) (hL : (L f).length ≤ 48) (hs0 : s0 < 2 ^ 31) (hE : ∀ k, k < (L f).length → (nI k < E ↔ nI k < j)) (hE2 : E ≤ nI (L f).length) (hi : ∀ k, s0 ≤ k → k < (L f).length → i ≤ nI k) (hi2 : ∀ k, k < s0 → ¬ i ≤ nI k) (h : post (ps_sy (L f) i j (L f).length)) :
    ∃ n : Nat, wX_sum_58 post (nI (48 * f)) E ds kd sz it vl di dv n 0 (nI s0) := by
  by_cases c : s0 ≤ (L f).length
  · have w := ps_xul (ds := ds) (kd := kd) (sz := sz) (di := di) (dv := dv) hR hf hL hE hE2 hi h ((L f).length - s0) s0 (by omega) (Nat.le_refl _)
    rw [ps_sy_0 (L f) i j s0 (fun k hk z => hi2 k hk z.1)] at w
    exact ⟨_, w⟩
  · refine ⟨1, br_t (Int32.le_trans hE2 (nI_le (by omega) hs0)) ?_⟩
    rw [ps_sy_0 (L f) i j (L f).length (fun k hk z => hi2 k (by omega) z.1)] at h
    exact h
theorem ps_xu27 {i j : Int32} {s0 : Nat} (hK : ps_K kd sz L) (hR : ps_R 48 it vl L) (hf : f < 8) (hs0 : s0 < 2 ^ 31) (hi : ∀ k, s0 ≤ k → k < (L f).length → i ≤ nI k) (hi2 : ∀ k, k < s0 → ¬ i ≤ nI k) (h : post (ps_sy (L f) i j (L f).length)) :
    wX_sum_27 post (nI f) j (nI (48 * f)) (nI s0) ds kd sz it vl di dv := by
  have hz := (hK f hf).1
  have hL := ps_K_le hK f hf
  refine ⟨ps_in8 hf, ?_⟩
  rw [ps_cl8 hf, hz]
  refine br_c (fun q => ps_xu2 hR hf hL hs0 (fun k hk => Iff.rfl) q hi hi2 h) (fun q => ⟨ps_in8 hf, nm_e ?_⟩)
  have q2 := Int32.not_le.mp q
  exact ps_xu2 hR hf hL hs0 (fun k hk => ⟨fun z => Int32.lt_trans z q2, fun _ => nI_lt hk (by omega)⟩) (Int32.le_refl _) hi hi2 h
theorem ps_xsum {i j : Int32} (hK : ps_K kd sz L) (hR : ps_R 48 it vl L) (hf : f < 8) (h2 : kd f = 2) (h : post (ps_sy (L f) i j (L f).length)) :
    wpX_sum post (ds, kd, sz, it, vl, di, dv) (nI f) i j := by
  have hL := ps_K_le hK f hf
  unfold wpX_sum
  refine ps_xO hf (fun _ => br_f ps_10 ?_) (fun q => absurd h2 q)
  refine ps_xR ?_
  refine br_c (fun q => ?_) (fun q => ?_)
  · obtain ⟨m, hm, rfl⟩ := nI_of (x := i) (Int32.not_lt.mpr q)
    exact ps_xu27 hK hR hf hm (fun k h1 h2 => nI_le h1 (by omega)) (fun k hk => nI_ge hk hm) h
  · have q2 := Int32.not_le.mp q
    exact ps_xu27 (s0 := 0) hK hR hf (by decide) (fun k h1 h2 => Int32.le_trans (Int32.le_of_lt q2) (nI_pos' (by omega))) (fun k hk => absurd hk (Nat.not_lt_zero k)) h
end
