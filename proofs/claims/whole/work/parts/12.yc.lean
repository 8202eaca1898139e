section
variable {kd sz a b x y : Nat → Int32} {n : Int32} {L : Nat → List ps_E} {f t : Nat} {post : Int32 → SY → Prop}
theorem ps_yv60 {w : Nat} (hK : ps_K kd sz L) (hR : ps_R 50 a b L) (hf : f < 8) (ht : t < 8) (hw : w < 2)
    (h : ∀ r u', ps_out ps_Y kd sz L 2 48 t (ps_aq [] (ps_fc (L f) w) (L f).length) r u' → post r u') :
    ∀ (c k : Nat), k + c = (L f).length → ∀ x y, ps_dr 100 x y (ps_aq [] (ps_fc (L f) w) k) → wY_convert_60 post (nI f) (nI w) (nI t) (c + 1) (nI k) (nI (ps_aq [] (ps_fc (L f) w) k).length) kd sz a b x y := by
  have hL := ps_K_le hK f hf
  have hz := (hK f hf).1
  intro c
  induction c with
  | zero =>
    intro k e x y hd
    have q : k = (L f).length := by omega
    subst q
    have l := ps_fc_len (L f) w (L f).length
    refine ⟨ps_in8 hf, ?_⟩
    rw [ps_cl8 hf, hz]
    exact br_t (nI_le (by omega) (by omega)) (ps_yV (Or.inr ⟨by decide, rfl⟩) ht hR (ps_K_le hK) hd (by omega) (fun r u' o => by obtain ⟨_, _, _, _, _, _, _⟩ := u'; exact h _ _ o))
  | succ c ih =>
    intro k e x y hd
    have l := ps_fc_len (L f) w k
    have i1 : k < 50 := by omega
    have r := hR f hf k (by omega)
    have w2 := ih (k + 1) (by omega)
    have z : ps_aq [] (ps_fc (L f) w) (k + 1) = ps_aq [] (ps_fc (L f) w) k ++ [(if w = 0 then (ps_at (L f) k).1 else (ps_at (L f) k).2, 0)] := rfl
    rw [z] at w2
    refine ⟨ps_in8 hf, ?_⟩
    rw [ps_cl8 hf, hz]
    refine br_f (nI_ge (by omega) (by omega)) (pk_eq w 0 (fun q => ⟨ps_inY hf i1, ?_⟩) (fun q => ⟨ps_inY hf i1, ?_⟩))
    · rw [ps_clY hf i1, r.1]
      rw [if_pos q] at w2
      unfold wY_convert_103
      exact ps_yA hd (by omega) (fun x' y' hd' => nm_r (nI_1 k) (w2 x' y' hd'))
    · rw [ps_clY hf i1, r.2]
      rw [if_neg q] at w2
      unfold wY_convert_103
      exact ps_yA hd (by omega) (fun x' y' hd' => nm_r (nI_1 k) (w2 x' y' hd'))
theorem ps_cnt_le (M : List ps_E) (j : Int32) : ∀ i, ps_cnt M j i ≤ i
  | 0 => Nat.le_refl _
  | i + 1 => by
    have h := ps_cnt_le M j i
    unfold ps_cnt
    split <;> omega
theorem ps_yv153 {w i : Nat} {e : Int32} {D : List ps_E} {J : Int32 → Int32 → (Nat → Int32) → (Nat → Int32) → (Nat → Int32) → (Nat → Int32) → (Nat → Int32) → (Nat → Int32) → Prop} (hK : ps_K kd sz L) (hR : ps_R 50 a b L) (hf : f < 8) (hw : w < 4)
    (h : wY_convert_205 post J (nI f) (nI w) (nI t) (nI i) (if w = 2 then nI (ps_cnt (L f) e (L f).length) else nI i) e (nI D.length) kd sz a b x y) :
    ∀ (c s : Nat), s + c = (L f).length → wY_convert_153 post J (nI f) (nI w) (nI t) (nI i) e (nI D.length) kd sz a b x y (c + 1) (nI (ps_cnt (L f) e s)) (nI s) := by
  have hL := ps_K_le hK f hf
  have hz := (hK f hf).1
  intro c
  induction c with
  | zero =>
    intro s es
    have q : s = (L f).length := by omega
    subst q
    refine ⟨ps_in8 hf, ?_⟩
    rw [ps_cl8 hf, hz]
    refine br_t (Int32.le_refl _) (pk_eq w 2 (fun c1 => ?_) (fun c1 => ?_))
    · rw [if_pos c1] at h; exact h
    · rw [if_neg c1] at h; exact h
  | succ c ih =>
    intro s es
    have i1 : s < 50 := by omega
    have v := ih (s + 1) (by omega)
    refine ⟨ps_in8 hf, ?_⟩
    rw [ps_cl8 hf, hz]
    refine br_f (nI_ge (by omega) (by omega)) ⟨ps_inY hf i1, ?_⟩
    rw [ps_clY hf i1, (hR f hf s (by omega)).1]
    refine br_c (fun q => nm_r (nI_1 _) (nm_r (nI_1 s) ?_)) (fun q => nm_r (nI_1 s) ?_)
    · rw [show ps_cnt (L f) e (s + 1) = ps_cnt (L f) e s + 1 by rw [ps_cnt]; exact if_pos q] at v
      exact v
    · rw [show ps_cnt (L f) e (s + 1) = ps_cnt (L f) e s by rw [ps_cnt]; exact if_neg q] at v
      exact v
theorem ps_yv122 {w : Nat} (hK : ps_K kd sz L) (hR : ps_R 50 a b L) (hf : f < 8) (ht : t < 8) (hw : w < 4)
    (h : ∀ r u', ps_out ps_Y kd sz L 1 24 t (ps_ty w (L f) (L f).length) r u' → post r u') :
    ∀ (c k : Nat), k + c = (L f).length → ∀ x y, ps_dr 100 x y (ps_ty w (L f) k) → wY_convert_122 post (nI f) (nI w) (nI t) (c + 1) (nI k) (nI (ps_ty w (L f) k).length) kd sz a b x y := by
  have hL := ps_K_le hK f hf
  have hz := (hK f hf).1
  intro c
  induction c with
  | zero =>
    intro k e x y hd
    have q : k = (L f).length := by omega
    subst q
    have l := ps_ty_len w (L f) (L f).length
    refine ⟨ps_in8 hf, ?_⟩
    rw [ps_cl8 hf, hz]
    exact br_t (nI_le (by omega) (by omega)) (ps_yV (Or.inl ⟨rfl, rfl⟩) ht hR (ps_K_le hK) hd (by omega) (fun r u' o => by obtain ⟨_, _, _, _, _, _, _⟩ := u'; exact h _ _ o))
  | succ c ih =>
    intro k e x y hd
    have l := ps_ty_len w (L f) k
    have i1 : k < 50 := by omega
    have r := hR f hf k (by omega)
    have w2 := ih (k + 1) (by omega)
    refine ⟨ps_in8 hf, ?_⟩
    rw [ps_cl8 hf, hz]
    refine br_f (nI_ge (by omega) (by omega)) ⟨ps_inY hf i1, ?_⟩
    rw [ps_clY hf i1, r.1]
    refine nm_e ⟨(L f).length + 1, ps_yv153 hK hR hf hw ?_ (L f).length 0 (Nat.zero_add _)⟩
    unfold wY_convert_205
    exact ps_yS hd (by omega) (fun x' y' hd' => nm_r (nI_1 k) (w2 x' y' hd'))
theorem ps_ycv1 {w : Nat} (hK : ps_K kd sz L) (hR : ps_R 50 a b L) (hf : f < 8) (ht : t < 8) (hw : w < 2) (h1 : kd f = 1)
    (h : ∀ r u', ps_out ps_Y kd sz L 2 48 t (ps_aq [] (ps_fc (L f) w) (L f).length) r u' → post r u') : wpY_convert post (n, kd, sz, a, b, x, y) (nI f) (nI w) (nI t) := by
  unfold wpY_convert
  refine ps_yP1 hf (br_f ps_10 (ps_yP1 ht (br_f ps_10 (br_f (nI_pos (by omega)) (br_t (nI_le (b := 3) (by omega) (by decide)) ⟨ps_in8 hf, ?_⟩)))))
  rw [ps_cl8 hf]
  exact br_f (nI_ge (b := 2) (by omega) (by decide)) (br_t h1 (br_f (nI_ge (b := 2) (by omega) (by decide)) ⟨(L f).length + 1, ps_yv60 hK hR hf ht hw h (L f).length 0 (Nat.zero_add _) x y ps_dr_n⟩))
theorem ps_ycv2 {w : Nat} (hK : ps_K kd sz L) (hR : ps_R 50 a b L) (hf : f < 8) (ht : t < 8) (hw : w < 4) (hw2 : 2 ≤ w) (h2 : kd f = 2)
    (h : ∀ r u', ps_out ps_Y kd sz L 1 24 t (ps_ty w (L f) (L f).length) r u' → post r u') : wpY_convert post (n, kd, sz, a, b, x, y) (nI f) (nI w) (nI t) := by
  unfold wpY_convert
  refine ps_yP1 hf (br_f ps_10 (ps_yP1 ht (br_f ps_10 (br_f (nI_pos (by omega)) (br_t (nI_le (b := 3) (by omega) (by decide)) ⟨ps_in8 hf, ?_⟩)))))
  rw [ps_cl8 hf]
  exact br_t (nI_le (a := 2) (by omega) (by omega)) (br_t h2 (br_t (nI_le (a := 2) (by omega) (by omega)) ⟨(L f).length + 1, ps_yv122 hK hR hf ht hw h (L f).length 0 (Nat.zero_add _) x y ps_dr_n⟩))
end
section
variable {kd sz a b x y : Nat → Int32} {n : Int32} {L : Nat → List ps_E} {p q t how s : Nat} {D : List ps_E} {k v : Int32} {post : Int32 → SY → Prop}
variable {J : Int32 → Int32 → (Nat → Int32) → (Nat → Int32) → (Nat → Int32) → (Nat → Int32) → (Nat → Int32) → (Nat → Int32) → Prop}
theorem ps_ym172 {z : Int32} (hd : ps_dr 100 x y D) (hD : D.length < 99) (h : ∀ x' y', ps_dr 100 x' y' (ps_ins k z D) → J (nI (s + 1)) (nI (ps_ins k z D).length) kd sz a b x' y') :
    wY_merge_172 post J (nI p) (nI q) (nI how) (nI t) (nI s) z k (nI D.length) kd sz a b x y := by
  unfold wY_merge_172
  exact ps_yS hd hD (fun x' y' hd' => nm_r (nI_1 s) (h x' y' hd'))
theorem ps_ym196 (hd : ps_dr 100 x y D) (hD : D.length < 99) (h : ∀ x' y', ps_dr 100 x' y' (ps_ins k v D) → J (nI (s + 1)) (nI (ps_ins k v D).length) kd sz a b x' y') :
    wY_merge_196 post J (nI p) (nI q) (nI how) (nI t) (nI s) k v (nI D.length) kd sz a b x y := by
  unfold wY_merge_196
  exact ps_yS hd hD (fun x' y' hd' => nm_r (nI_1 s) (h x' y' hd'))
theorem ps_ym133n {z0 : Int32} (hh : how < 6) (hd : ps_dr 100 x y D) (hD : D.length < 99)
    (hn : ps_cb how (some v) none = none → J (nI (s + 1)) (nI D.length) kd sz a b x y)
    (hs : ∀ z, ps_cb how (some v) none = some z → ∀ x' y', ps_dr 100 x' y' (ps_ins k z D) → J (nI (s + 1)) (nI (ps_ins k z D).length) kd sz a b x' y') :
    wY_merge_133 post J (nI p) (nI q) (nI how) (nI t) (nI s) k v (-1) z0 (nI D.length) kd sz a b x y := by
  unfold wY_merge_133
  refine pk_le 3 how (fun c1 => pk_eq how 3 (fun c2 => br_t ps_n1' (nm_r (nI_1 s) (hn (ps_cb_a c2)))) (fun c2 => br_f ps_n1 ?_)) (fun c1 => br_t ps_n1' ?_)
  · exact ps_ym196 hd hD (hs v (ps_cb_a' c2))
  · unfold wY_merge_152
    exact ps_ym172 hd hD (hs v (ps_cb_a' (by omega)))
theorem ps_ym133s {i : Nat} {w : Int32} (hi : i < 48) (hh : how < 6) (hd : ps_dr 100 x y D) (hD : D.length < 99)
    (hn : ps_cb how (some v) (some w) = none → J (nI (s + 1)) (nI D.length) kd sz a b x y)
    (hs : ∀ z, ps_cb how (some v) (some w) = some z → ∀ x' y', ps_dr 100 x' y' (ps_ins k z D) → J (nI (s + 1)) (nI (ps_ins k z D).length) kd sz a b x' y') :
    wY_merge_133 post J (nI p) (nI q) (nI how) (nI t) (nI s) k v (nI i) w (nI D.length) kd sz a b x y := by
  unfold wY_merge_133
  refine pk_le 3 how (fun c1 => pk_eq how 3 (fun c2 => br_f (nI_pos (by omega)) ?_) (fun c2 => br_t (nI_pos' (by omega)) (nm_r (nI_1 s) (hn (ps_cb_c (by omega)))))) (fun c1 => br_f (nI_pos (by omega)) (pk_eq how 0 (fun c2 => ?_) (fun c2 => pk_eq how 1 (fun c3 => ?_) (fun c3 => ?_))))
  · refine ps_ym196 hd hD (hs v ?_)
    rw [ps_cb_c' (by omega)]; unfold ps_vv
    rw [if_neg (by omega), if_neg (by omega)]
  · unfold wY_merge_152
    refine ps_ym172 hd hD (hs v ?_)
    rw [ps_cb_c' (by omega)]; unfold ps_vv
    rw [if_neg (by omega), if_neg (by omega)]
  · refine ps_ym172 hd hD (hs w ?_)
    rw [ps_cb_c' (by omega)]; unfold ps_vv
    rw [if_pos c3]
  · refine ps_ym172 hd hD (hs (v + w) ?_)
    rw [ps_cb_c' (by omega)]; unfold ps_vv
    rw [if_neg c3, if_pos (by omega)]
theorem ps_ym213 (hK : ps_K kd sz L) (hR : ps_R 50 a b L) (hp : p < 8) (hq : q < 8) (ht : t < 8) (hh : how < 6) (hD : D.length ≤ 48)
    (h : ∀ r u', ps_out ps_Y kd sz L 1 24 t (ps_fo (ps_p2 how (L p)) D (L q)) r u' → post r u') :
    ∀ (c s : Nat), s + c = (L q).length → ∀ x y, ps_dr 100 x y (ps_fo (ps_p2 how (L p)) D ((L q).take s)) →
      wY_merge_213 post (nI p) (nI q) (nI how) (nI t) (c + 1) (nI s) (nI (ps_fo (ps_p2 how (L p)) D ((L q).take s)).length) kd sz a b x y := by
  have hL := ps_K_le hK q hq
  have hLp := ps_K_le hK p hp
  have hz := (hK q hq).1
  intro c
  induction c with
  | zero =>
    intro s e x y hd
    have l := ps_fo_tk (ps_p2 how (L p)) D (L q) s
    refine ⟨ps_in8 hq, ?_⟩
    rw [ps_cl8 hq, hz]
    refine br_t (nI_le (by omega) (by omega)) ?_
    have tk : (L q).take s = L q := List.take_of_length_le (by omega)
    rw [tk] at hd l ⊢
    exact ps_yV (Or.inl ⟨rfl, rfl⟩) ht hR (ps_K_le hK) hd (by omega) (fun r u' o => by obtain ⟨_, _, _, _, _, _, _⟩ := u'; exact h _ _ o)
  | succ c ih =>
    intro s e x y hd
    have i1 : s < 50 := by omega
    have i2 : s < (L q).length := by omega
    have r := hR q hq s i2
    have l := ps_fo_tk (ps_p2 how (L p)) D (L q) s
    have st := ps_fo_1 (ps_p2 how (L p)) D (L q) s i2
    have v := ih (s + 1) (by omega)
    have skip : ps_p2 how (L p) (ps_at (L q) s).1 (ps_at (L q) s).2 = none → wY_merge_213 post (nI p) (nI q) (nI how) (nI t) (c + 1) (nI (s + 1)) (nI (ps_fo (ps_p2 how (L p)) D ((L q).take s)).length) kd sz a b x y := fun z => by
      rw [ps_st_n z] at st
      rw [st] at v
      exact v x y hd
    refine ⟨ps_in8 hq, ?_⟩
    rw [ps_cl8 hq, hz]
    refine br_f (nI_ge (by omega) (by omega)) ⟨ps_inY hq i1, ?_⟩
    rw [ps_clY hq i1, r.1]
    refine nm_e (ps_yF hp (hK p hp).1 (hR p hp) hLp (fun i hi g => br_t (nI_pos' (by omega)) (nm_r (nI_1 s) (skip ?_))) (fun g => br_f ps_n1 ?_))
    · unfold ps_p2; rw [g]
    · have e2 : ps_p2 how (L p) (ps_at (L q) s).1 (ps_at (L q) s).2 = ps_cb how none (some (ps_at (L q) s).2) := by unfold ps_p2; rw [g]
      have go : ¬ (how = 3 ∨ how = 4) → wY_merge_262 post (wY_merge_213 post (nI p) (nI q) (nI how) (nI t) (c + 1)) (nI p) (nI q) (nI how) (nI t) (nI s) (ps_at (L q) s).1 (nI (ps_fo (ps_p2 how (L p)) D ((L q).take s)).length) kd sz a b x y := fun z => by
        rw [ps_cb_b' z] at e2
        rw [ps_st_s e2] at st
        rw [st] at v
        refine ⟨ps_inY hq i1, ?_⟩
        rw [ps_clY hq i1, r.2]
        exact ps_yS hd (by omega) (fun x' y' hd' => nm_r (nI_1 s) (v x' y' hd'))
      refine pk_lt how 3 (fun c1 => go (by omega)) (fun c1 => pk_eq how 5 (fun c2 => go (by omega)) (fun c2 => nm_r (nI_1 s) (skip ?_)))
      rw [e2, ps_cb_b (by omega)]
theorem ps_ym64 (hK : ps_K kd sz L) (hR : ps_R 50 a b L) (hp : p < 8) (hq : q < 8) (ht : t < 8) (hh : how < 6)
    (h : ∀ r u', ps_out ps_Y kd sz L 1 24 t (ps_fo (ps_p2 how (L p)) (ps_fo (ps_p1 how (L q)) [] (L p)) (L q)) r u' → post r u') :
    ∀ (c s : Nat), s + c = (L p).length → ∀ x y, ps_dr 100 x y (ps_fo (ps_p1 how (L q)) [] ((L p).take s)) →
      wY_merge_64 post (nI p) (nI q) (nI how) (nI t) (c + 1) (nI s) (nI (ps_fo (ps_p1 how (L q)) [] ((L p).take s)).length) kd sz a b x y := by
  have hL := ps_K_le hK p hp
  have hLq := ps_K_le hK q hq
  have hz := (hK p hp).1
  intro c
  induction c with
  | zero =>
    intro s e x y hd
    have l := ps_fo_tk (ps_p1 how (L q)) [] (L p) s
    rw [List.length_nil] at l
    refine ⟨ps_in8 hp, ?_⟩
    rw [ps_cl8 hp, hz]
    refine br_t (nI_le (by omega) (by omega)) ?_
    have tk : (L p).take s = L p := List.take_of_length_le (by omega)
    rw [tk] at hd l ⊢
    exact ⟨(L q).length + 1, ps_ym213 hK hR hp hq ht hh (by omega) h (L q).length 0 (Nat.zero_add _) x y hd⟩
  | succ c ih =>
    intro s e x y hd
    have i1 : s < 50 := by omega
    have i2 : s < (L p).length := by omega
    have r := hR p hp s i2
    have l := ps_fo_tk (ps_p1 how (L q)) [] (L p) s
    rw [List.length_nil] at l
    have st := ps_fo_1 (ps_p1 how (L q)) [] (L p) s i2
    have v := ih (s + 1) (by omega)
    have skip : ps_p1 how (L q) (ps_at (L p) s).1 (ps_at (L p) s).2 = none → wY_merge_64 post (nI p) (nI q) (nI how) (nI t) (c + 1) (nI (s + 1)) (nI (ps_fo (ps_p1 how (L q)) [] ((L p).take s)).length) kd sz a b x y := fun z => by
      rw [ps_st_n z] at st
      rw [st] at v
      exact v x y hd
    have put : ∀ z, ps_p1 how (L q) (ps_at (L p) s).1 (ps_at (L p) s).2 = some z → ∀ x' y', ps_dr 100 x' y' (ps_ins (ps_at (L p) s).1 z (ps_fo (ps_p1 how (L q)) [] ((L p).take s))) → wY_merge_64 post (nI p) (nI q) (nI how) (nI t) (c + 1) (nI (s + 1)) (nI (ps_ins (ps_at (L p) s).1 z (ps_fo (ps_p1 how (L q)) [] ((L p).take s))).length) kd sz a b x' y' := fun z ez x' y' hd' => by
      rw [ps_st_s ez] at st
      rw [st] at v
      exact v x' y' hd'
    refine ⟨ps_in8 hp, ?_⟩
    rw [ps_cl8 hp, hz]
    refine br_f (nI_ge (by omega) (by omega)) ⟨ps_inY hp i1, ?_⟩
    rw [ps_clY hp i1, r.1, r.2]
    refine nm_e ⟨ps_inY hp i1, nm_e (ps_yF hq (hK q hq).1 (hR q hq) hLq (fun i hi g => br_t (nI_pos' (by omega)) ⟨ps_inY hq (by omega), ?_⟩) (fun g => br_f ps_n1 ?_))⟩
    · rw [ps_clY hq (by omega), (hR q hq i hi).2]
      unfold ps_p1 at skip put
      rw [g] at skip put
      exact ps_ym133s (by omega) hh hd (by omega) skip put
    · unfold ps_p1 at skip put
      rw [g] at skip put
      exact ps_ym133n hh hd (by omega) skip put
theorem ps_ymerge (hK : ps_K kd sz L) (hR : ps_R 50 a b L) (hp : p < 8) (hq : q < 8) (ht : t < 8) (hh : how < 6) (h1 : kd p = 1) (h2 : kd q = 1)
    (h : ∀ r u', ps_out ps_Y kd sz L 1 24 t (ps_mg how ((L p).length + (L q).length) (L p) (L q)) r u' → post r u') :
    wpY_merge post (n, kd, sz, a, b, x, y) (nI p) (nI q) (nI how) (nI t) := by
  rw [← ps_mg_fo how _ (L p) (L q) (Nat.le_refl _) (ps_kok_1 (hK p hp).2 h1).2 (ps_kok_1 (hK q hq).2 h2).2] at h
  unfold wpY_merge
  refine ps_yP1 hp (br_f ps_10 (ps_yP1 hq (br_f ps_10 (ps_yP1 ht (br_f ps_10 (br_f (nI_pos (by omega)) (br_t (nI_le (b := 5) (by omega) (by decide)) ⟨ps_in8 hp, ?_⟩)))))))
  rw [ps_cl8 hp, ps_cl8 hq]
  exact br_t h1 ⟨ps_in8 hq, br_t h2 ⟨(L p).length + 1, ps_ym64 hK hR hp hq ht hh h (L p).length 0 (Nat.zero_add _) x y ps_dr_n⟩⟩
end
