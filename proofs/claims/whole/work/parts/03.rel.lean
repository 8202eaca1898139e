/-- cell j of the two arrays holds the pair e -/
def ps_c (x y : Nat → Int32) (j : Nat) (e : ps_E) : Prop := x j = e.1 ∧ y j = e.2
theorem ps_c_s {x y : Nat → Int32} {j : Nat} {p q : Int32} : ps_c (upd x j p) (upd y j q) j (p, q) := ⟨pk_us, pk_us⟩
theorem ps_c_n {x y : Nat → Int32} {i j : Nat} {p q : Int32} {e : ps_E} (h : i ≠ j) (g : ps_c x y i e) : ps_c (upd x j p) (upd y j q) i e := ⟨(pk_un h).trans g.1, (pk_un h).trans g.2⟩
/-- the draft of room m holds the list D -/
def ps_dr (m : Nat) (x y : Nat → Int32) (D : List ps_E) : Prop := ∀ i, i < D.length → i < m → ps_c x y i (ps_at D i)
theorem ps_dr_n {m : Nat} {x y : Nat → Int32} : ps_dr m x y [] := fun _ h _ => absurd h (Nat.not_lt_zero _)
theorem ps_len1 (D : List ps_E) (e : ps_E) : (D ++ [e]).length = D.length + 1 := by rw [List.length_append]; rfl
theorem ps_dr_a {m : Nat} {x y : Nat → Int32} {D : List ps_E} {p q : Int32} (h : ps_dr m x y D) : ps_dr m (upd x D.length p) (upd y D.length q) (D ++ [(p, q)]) := by
  intro i hi hm
  rw [ps_len1] at hi
  by_cases c : i = D.length
  · subst c
    rw [ps_at_n]
    exact ps_c_s
  · rw [ps_at_l D _ i (by omega)]
    exact ps_c_n c (h i (by omega) hm)
theorem ps_dr_o {m : Nat} {x y : Nat → Int32} {D : List ps_E} {e : ps_E} (h : ps_dr m x y D) (g : m ≤ D.length) : ps_dr m x y (D ++ [e]) := by
  intro i hi hm
  rw [ps_at_l D _ i (by omega)]
  exact h i (by omega) hm
/-- the row at b holds the list D -/
def ps_row (x y : Nat → Int32) (b : Nat) (D : List ps_E) : Prop := ∀ i, i < D.length → ps_c x y (b + i) (ps_at D i)
/-- n cells from b on are written, the others as before -/
def ps_wr (b : Nat) (x y x' y' : Nat → Int32) (D : List ps_E) (n : Nat) : Prop :=
  (∀ i, i < n → ps_c x' y' (b + i) (ps_at D i)) ∧ ∀ j, (j < b ∨ b + n ≤ j) → x' j = x j ∧ y' j = y j
theorem ps_wr_0 {b : Nat} {x y : Nat → Int32} {D : List ps_E} : ps_wr b x y x y D 0 := ⟨fun _ h => absurd h (Nat.not_lt_zero _), fun _ _ => ⟨rfl, rfl⟩⟩
theorem ps_wr_1 {b : Nat} {x y x' y' : Nat → Int32} {D : List ps_E} {n : Nat} {p q : Int32} (h : ps_wr b x y x' y' D n) (hp : p = (ps_at D n).1) (hq : q = (ps_at D n).2) : ps_wr b x y (upd x' (b + n) p) (upd y' (b + n) q) D (n + 1) := by
  constructor
  · intro i hi
    by_cases c : i = n
    · subst c
      exact ⟨pk_us.trans hp, pk_us.trans hq⟩
    · exact ps_c_n (by omega) (h.1 i (by omega))
  · intro j hj
    have g := h.2 j (by omega)
    exact ⟨(pk_un (by omega)).trans g.1, (pk_un (by omega)).trans g.2⟩
/-- all rows -/
def ps_R (w : Nat) (x y : Nat → Int32) (L : Nat → List ps_E) : Prop := ∀ p, p < 8 → ps_row x y (w * p) (L p)
def ps_up (L : Nat → List ps_E) (t : Nat) (D : List ps_E) : Nat → List ps_E := fun p => if p = t then D else L p
theorem ps_up_s {L : Nat → List ps_E} {t : Nat} {D : List ps_E} : ps_up L t D t = D := if_pos rfl
theorem ps_up_n {L : Nat → List ps_E} {t p : Nat} {D : List ps_E} (h : p ≠ t) : ps_up L t D p = L p := if_neg h
theorem ps_dj {w p t i : Nat} (hi : i < w) (h : p ≠ t) : w * p + i < w * t ∨ w * t + w ≤ w * p + i := by
  rcases Nat.lt_or_gt_of_ne h with c | c
  · have := Nat.mul_le_mul_left w (Nat.succ_le_of_lt c)
    rw [Nat.mul_succ] at this
    omega
  · have := Nat.mul_le_mul_left w (Nat.succ_le_of_lt c)
    rw [Nat.mul_succ] at this
    omega
theorem ps_R_up {w : Nat} {x y x' y' : Nat → Int32} {L : Nat → List ps_E} {t : Nat} {D : List ps_E} (h : ps_R w x y L) (hl : ∀ p, p < 8 → (L p).length ≤ w) (hD : D.length ≤ w) (g : ps_wr (w * t) x y x' y' D D.length) : ps_R w x' y' (ps_up L t D) := by
  intro p hp
  by_cases c : p = t
  · subst c
    rw [ps_up_s]
    exact g.1
  · rw [ps_up_n c]
    intro i hi
    have hw := hl p hp
    have z := g.2 (w * p + i) (by rcases ps_dj (w := w) (i := i) (by omega) c with q | q <;> omega)
    have a := h p hp i hi
    exact ⟨z.1.trans a.1, z.2.trans a.2⟩
/-- what a kind asks of its list -/
def ps_kok (kind : Int32) (D : List ps_E) : Prop := (kind = 0 ∧ D = []) ∨ (kind = 1 ∧ D.length ≤ 24 ∧ ps_srt D) ∨ (kind = 2 ∧ D.length ≤ 48 ∧ ps_z D)
theorem ps_kok_le {kind : Int32} {D : List ps_E} (h : ps_kok kind D) : D.length ≤ 48 := by
  rcases h with h | h | h
  · rw [h.2]; exact Nat.zero_le _
  · omega
  · omega
theorem ps_kok_1 {kind : Int32} {D : List ps_E} (h : ps_kok kind D) (k : kind = 1) : D.length ≤ 24 ∧ ps_srt D := by
  rcases h with h | h | h
  · rw [k] at h; exact absurd h.1 (by decide)
  · exact h.2
  · rw [k] at h; exact absurd h.1 (by decide)
theorem ps_kok_2 {kind : Int32} {D : List ps_E} (h : ps_kok kind D) (k : kind = 2) : D.length ≤ 48 ∧ ps_z D := by
  rcases h with h | h | h
  · rw [k] at h; exact absurd h.1 (by decide)
  · rw [k] at h; exact absurd h.1 (by decide)
  · exact h.2
def ps_K (kd sz : Nat → Int32) (L : Nat → List ps_E) : Prop := ∀ p, p < 8 → sz p = nI (L p).length ∧ ps_kok (kd p) (L p)
theorem ps_K_le {kd sz : Nat → Int32} {L : Nat → List ps_E} (h : ps_K kd sz L) (p : Nat) (hp : p < 8) : (L p).length ≤ 48 := ps_kok_le (h p hp).2
theorem ps_K_up {kd sz : Nat → Int32} {L : Nat → List ps_E} {t : Nat} {D : List ps_E} {kind : Int32} (h : ps_K kd sz L) (o : ps_kok kind D) : ps_K (upd kd t kind) (upd sz t (nI D.length)) (ps_up L t D) := by
  intro p hp
  by_cases c : p = t
  · subst c
    rw [ps_up_s, pk_us, pk_us]
    exact ⟨rfl, o⟩
  · rw [ps_up_n c, pk_un c, pk_un c]
    exact h p hp
/-- the two states' pictures -/
def ps_X (kd sz : Nat → Int32) (L : Nat → List ps_E) (u : SX) : Prop := ∃ ds it vl di dv, u = (ds, kd, sz, it, vl, di, dv) ∧ ps_R 48 it vl L
def ps_Y (kd sz : Nat → Int32) (L : Nat → List ps_E) (v : SY) : Prop := ∃ n a b x y, v = (n, kd, sz, a, b, x, y) ∧ ps_R 50 a b L
def i_Rel (_ : Nat) (u : SX) (v : SY) : Prop := ∃ kd sz L, ps_K kd sz L ∧ ps_X kd sz L u ∧ ps_Y kd sz L v
/-- how a making call ends -/
def ps_out {S : Type} (P : (Nat → Int32) → (Nat → Int32) → (Nat → List ps_E) → S → Prop) (kd sz : Nat → Int32) (L : Nat → List ps_E) (kind : Int32) (cap t : Nat) (D : List ps_E) (r : Int32) (s : S) : Prop :=
  (D.length ≤ cap ∧ r = nI D.length ∧ P (upd kd t kind) (upd sz t (nI D.length)) (ps_up L t D) s) ∨ (cap < D.length ∧ r = -4 ∧ P kd sz L s)
theorem ps_fin {k : Nat} {kd sz : Nat → Int32} {L : Nat → List ps_E} {kind : Int32} {cap t : Nat} {D : List ps_E} {r r' : Int32} {u : SX} {v : SY} (hK : ps_K kd sz L) (hD : D.length ≤ cap → ps_kok kind D)
    (a : ps_out ps_X kd sz L kind cap t D r u) (b : ps_out ps_Y kd sz L kind cap t D r' v) : r' = r ∧ i_Rel k u v := by
  rcases a with a | a
  · rcases b with b | b
    · exact ⟨b.2.1.trans a.2.1.symm, _, _, _, ps_K_up hK (hD a.1), a.2.2, b.2.2⟩
    · exact absurd a.1 (by omega)
  · rcases b with b | b
    · exact absurd a.1 (by omega)
    · exact ⟨b.2.1.trans a.2.1.symm, _, _, _, hK, a.2.2, b.2.2⟩
/-- shifting cells up by one, above n -/
def ps_sh (x y : Nat → Int32) (D : List ps_E) (n : Nat) : Prop := (∀ j, j < n → j < D.length → ps_c x y j (ps_at D j)) ∧ ∀ j, n < j + 1 → j < D.length → ps_c x y (j + 1) (ps_at D j)
theorem ps_sh_0 {m : Nat} {x y : Nat → Int32} {D : List ps_E} (h : ps_dr m x y D) (g : D.length ≤ m) : ps_sh x y D D.length := ⟨fun j hj _ => h j hj (by omega), fun j hj hd => absurd hd (by omega)⟩
theorem ps_sh_1 {x y : Nat → Int32} {D : List ps_E} {n : Nat} {p q : Int32} (h : ps_sh x y D (n + 1)) (hn : n < D.length) (hp : p = x n) (hq : q = y n) : ps_sh (upd x (n + 1) p) (upd y (n + 1) q) D n := by
  have a := h.1 n (Nat.lt_succ_self n) hn
  constructor
  · intro j hj hd
    exact ps_c_n (by omega) (h.1 j (by omega) hd)
  · intro j hj hd
    by_cases c : j = n
    · subst c
      exact ⟨pk_us.trans (hp.trans a.1), pk_us.trans (hq.trans a.2)⟩
    · exact ps_c_n (by omega) (h.2 j (by omega) hd)
theorem ps_at_in1 (D : List ps_E) (e : ps_E) (s j : Nat) (hs : s ≤ D.length) (h : j < s) : ps_at (D.take s ++ e :: D.drop s) j = ps_at D j := by
  rw [ps_at_l _ _ j (by rw [List.length_take]; omega), ps_at_tk D s j h]
theorem ps_at_in2 (D E : List ps_E) (e : ps_E) (s : Nat) (hs : s ≤ D.length) : ps_at (D.take s ++ e :: E) s = e := by
  have l : (D.take s).length = s := by rw [List.length_take]; omega
  have q := ps_at_r (D.take s) (e :: E) 0
  rw [l] at q
  exact q
theorem ps_at_in3 (D E : List ps_E) (e : ps_E) (s j : Nat) (hs : s ≤ D.length) : ps_at (D.take s ++ e :: E) (s + (j + 1)) = ps_at E j := by
  have l : (D.take s).length = s := by rw [List.length_take]; omega
  have q := ps_at_r (D.take s) (e :: E) (j + 1)
  rw [l] at q
  exact q
theorem ps_sh_e {m : Nat} {x y : Nat → Int32} {D : List ps_E} {s : Nat} {p q : Int32} (h : ps_sh x y D s) (hs : s ≤ D.length) : ps_dr m (upd x s p) (upd y s q) (D.take s ++ (p, q) :: D.drop s) := by
  intro i hi _
  have l : (D.take s ++ (p, q) :: D.drop s).length = D.length + 1 := by
    rw [List.length_append, List.length_take, List.length_cons, List.length_drop]; omega
  rw [l] at hi
  by_cases c : i < s
  · rw [ps_at_in1 D _ s i hs c]
    exact ps_c_n (by omega) (h.1 i c (by omega))
  · by_cases d : i = s
    · subst d
      rw [ps_at_in2 D _ _ i hs]
      exact ps_c_s
    · obtain ⟨j, rfl⟩ : ∃ j, i = s + (j + 1) := ⟨i - s - 1, by omega⟩
      rw [ps_at_in3 D _ _ s j hs, ps_at_dr]
      exact ps_c_n (by omega) (h.2 (s + j) (by omega) (by omega))
/-- one cell is written anew -/
theorem ps_dr_w {m : Nat} {x y x' y' : Nat → Int32} {D : List ps_E} {s : Nat} {e : ps_E} (h : ps_dr m x y D) (hs : s < D.length) (hc : ps_c x' y' s e) (hn : ∀ j, j ≠ s → x' j = x j ∧ y' j = y j) : ps_dr m x' y' (D.take s ++ e :: D.drop (s + 1)) := by
  intro i hi hm
  have l : (D.take s ++ e :: D.drop (s + 1)).length = D.length := by
    rw [List.length_append, List.length_take, List.length_cons, List.length_drop]; omega
  rw [l] at hi
  by_cases d : i = s
  · subst d
    rw [ps_at_in2 D _ _ i (by omega)]
    exact hc
  · have z : ps_at (D.take s ++ e :: D.drop (s + 1)) i = ps_at D i := by
      by_cases c : i < s
      · rw [ps_at_l _ _ i (by rw [List.length_take]; omega), ps_at_tk D s i c]
      · obtain ⟨j, rfl⟩ : ∃ j, i = s + (j + 1) := ⟨i - s - 1, by omega⟩
        rw [ps_at_in3 D _ _ s j (by omega), ps_at_dr]
        exact congrArg _ (by omega)
    rw [z]
    have g := hn i d
    have a := h i hi hm
    exact ⟨g.1.trans a.1, g.2.trans a.2⟩
