/-- lists made by appending, a turn at a time -/
def ps_ap (f : Nat → List ps_E) : Nat → List ps_E
  | 0 => []
  | k + 1 => ps_ap f k ++ f k
theorem ps_ap_sp (f : Nat → List ps_E) (a : Nat) : ∀ b, ps_ap f (a + b) = ps_ap f a ++ ps_ap (fun k => f (a + k)) b
  | 0 => by simp [ps_ap]
  | b + 1 => by
    show ps_ap f (a + b) ++ f (a + b) = ps_ap f a ++ (ps_ap (fun k => f (a + k)) b ++ f (a + b))
    rw [ps_ap_sp f a b, List.append_assoc]
theorem ps_ap_cg (f g : Nat → List ps_E) : ∀ n, (∀ k, k < n → f k = g k) → ps_ap f n = ps_ap g n
  | 0, _ => rfl
  | n + 1, h => by
    show ps_ap f n ++ f n = ps_ap g n ++ g n
    rw [ps_ap_cg f g n (fun k hk => h k (Nat.lt_succ_of_lt hk)), h n (Nat.lt_succ_self n)]
theorem ps_ap_nl (f : Nat → List ps_E) : ∀ n, (∀ k, k < n → f k = []) → ps_ap f n = []
  | 0, _ => rfl
  | n + 1, h => by
    show ps_ap f n ++ f n = []
    rw [ps_ap_nl f n (fun k hk => h k (Nat.lt_succ_of_lt hk)), h n (Nat.lt_succ_self n)]
    rfl
theorem ps_ap_len (f : Nat → List ps_E) (m : Nat) : ∀ n, (∀ k, k < n → (f k).length ≤ m) → (ps_ap f n).length ≤ n * m
  | 0, _ => Nat.zero_le _
  | n + 1, h => by
    have h1 := ps_ap_len f m n (fun k hk => h k (Nat.lt_succ_of_lt hk))
    have h2 := h n (Nat.lt_succ_self n)
    show (ps_ap f n ++ f n).length ≤ _
    rw [List.length_append, Nat.succ_mul]
    omega
/-- second parts are 0 -/
def ps_z (D : List ps_E) : Prop := ∀ e, e ∈ D → e.2 = 0
theorem ps_z_n : ps_z [] := fun _ h => absurd h List.not_mem_nil
theorem ps_z_1 (v : Int32) : ps_z [(v, 0)] := fun e h => by rw [List.mem_singleton.mp h]
theorem ps_z_a {A B : List ps_E} (h : ps_z A) (g : ps_z B) : ps_z (A ++ B) := fun e he => by
  rcases List.mem_append.mp he with he | he
  · exact h e he
  · exact g e he
theorem ps_z_at {D : List ps_E} (h : ps_z D) (i : Nat) : (ps_at D i).2 = 0 := by
  by_cases c : i < D.length
  · exact h _ (ps_at_mem D i c)
  · have e : ps_at D i = (0, 0) := by
      have q := ps_at_dr D i 0
      rw [List.drop_eq_nil_of_le (by omega)] at q
      exact q.symm
    rw [e]
theorem ps_z_e {D : List ps_E} (h : ps_z D) (i : Nat) : ps_z [ps_at D i] := fun e he => by
  rw [List.mem_singleton.mp he]; exact ps_z_at h i
theorem ps_z_ap (f : Nat → List ps_E) : ∀ n, (∀ k, k < n → ps_z (f k)) → ps_z (ps_ap f n)
  | 0, _ => ps_z_n
  | n + 1, h => ps_z_a (ps_z_ap f n (fun k hk => h k (Nat.lt_succ_of_lt hk))) (h n (Nat.lt_succ_self n))
theorem ps_z_pr {D : List ps_E} (h : ps_z D) (i : Nat) : ((ps_at D i).1, (0 : Int32)) = ps_at D i := by
  have := ps_z_at h i
  cases q : ps_at D i with
  | mk x y => rw [q] at this; exact congrArg (Prod.mk x) this.symm
/-- a stretch of a list -/
abbrev ps_g (L : List ps_E) (s : Nat) : Nat → List ps_E := fun k => [ps_at L (s + k)]
theorem ps_g_tk (L : List ps_E) (s : Nat) : ∀ c, s + c ≤ L.length → ps_ap (ps_g L s) c = (L.drop s).take c
  | 0, _ => by simp [ps_ap]
  | c + 1, h => by
    have l : c < (L.drop s).length := by rw [List.length_drop]; omega
    show ps_ap (ps_g L s) c ++ [ps_at L (s + c)] = _
    rw [ps_g_tk L s c (by omega), ps_tk1 (L.drop s) c l, ps_at_dr]
theorem ps_g_all (L : List ps_E) : ps_ap (ps_g L 0) L.length = L := by
  rw [ps_g_tk L 0 L.length (by omega)]
  simp
theorem ps_g_0 (L : List ps_E) (c : Nat) (h : c ≤ L.length) : ps_ap (ps_g L 0) c = L.take c := by
  rw [ps_g_tk L 0 c (by omega)]
  simp
theorem ps_g_end (L : List ps_E) (s : Nat) (h : s ≤ L.length) : ps_ap (ps_g L s) (L.length - s) = L.drop s := by
  rw [ps_g_tk L s _ (by omega), List.take_of_length_le (by rw [List.length_drop]; omega)]
theorem ps_g_len (L : List ps_E) (s : Nat) : ∀ c, (ps_ap (ps_g L s) c).length = c
  | 0 => rfl
  | c + 1 => by
    show (ps_ap (ps_g L s) c ++ [ps_at L (s + c)]).length = _
    rw [List.length_append, ps_g_len L s c]
    rfl
theorem ps_g_z {L : List ps_E} (h : ps_z L) (s c : Nat) : ps_z (ps_ap (ps_g L s) c) := ps_z_ap _ _ (fun _ _ => ps_z_e h _)
theorem ps_g_sh (L : List ps_E) (a s c : Nat) : ps_ap (fun k => ps_g L s (a + k)) c = ps_ap (ps_g L (s + a)) c :=
  ps_ap_cg _ _ c (fun k _ => by show [ps_at L (s + (a + k))] = [ps_at L (s + a + k)]; rw [Nat.add_assoc])
/-- the reference's insert: at turn i the new element goes ahead of the old one -/
def ps_fi (L : List ps_E) (i : Nat) (v : Int32) : Nat → List ps_E := fun k => (if k = i then [(v, 0)] else []) ++ (if k < L.length then [ps_at L k] else [])
theorem ps_fi_len (L : List ps_E) (i : Nat) (v : Int32) (k : Nat) : (ps_fi L i v k).length ≤ 2 := by
  unfold ps_fi
  rw [List.length_append]
  split <;> split <;> simp
theorem ps_fi_1 (L : List ps_E) (i : Nat) (v : Int32) (hi : i ≤ L.length) : ∀ c, c < L.length - i → ps_ap (fun k => ps_fi L i v (i + k)) (c + 1) = (v, 0) :: ps_ap (ps_g L i) (c + 1)
  | 0, h => by
    show [] ++ ps_fi L i v (i + 0) = (v, 0) :: ([] ++ [ps_at L (i + 0)])
    unfold ps_fi
    rw [if_pos (by omega), if_pos (by omega)]
    rfl
  | c + 1, h => by
    show ps_ap (fun k => ps_fi L i v (i + k)) (c + 1) ++ ps_fi L i v (i + (c + 1)) = (v, 0) :: (ps_ap (ps_g L i) (c + 1) ++ [ps_at L (i + (c + 1))])
    rw [ps_fi_1 L i v hi c (by omega)]
    unfold ps_fi
    rw [if_neg (by omega), if_pos (by omega)]
    rfl
theorem ps_fi_eq (L : List ps_E) (i : Nat) (v : Int32) (hi : i ≤ L.length) : ps_ap (ps_fi L i v) (L.length + 1) = ps_ap (ps_g L 0) i ++ [(v, 0)] ++ ps_ap (ps_g L i) (L.length - i) := by
  have e : L.length + 1 = i + ((L.length - i) + 1) := by omega
  have a : ps_ap (ps_fi L i v) i = ps_ap (ps_g L 0) i := ps_ap_cg _ _ i (fun k hk => by
    unfold ps_fi
    rw [if_neg (by omega), if_pos (by omega)]
    show [ps_at L k] = [ps_at L (0 + k)]
    rw [Nat.zero_add])
  have b : ps_ap (fun k => ps_fi L i v (i + k)) ((L.length - i) + 1) = (v, 0) :: ps_ap (ps_g L i) (L.length - i) := by
    cases m : L.length - i with
    | zero =>
      show [] ++ ps_fi L i v (i + 0) = (v, 0) :: []
      unfold ps_fi
      rw [if_pos (by omega), if_neg (by omega)]
      rfl
    | succ c =>
      show ps_ap (fun k => ps_fi L i v (i + k)) (c + 1) ++ ps_fi L i v (i + (c + 1)) = _
      rw [ps_fi_1 L i v hi c (by omega)]
      unfold ps_fi
      rw [if_neg (by omega), if_neg (by omega)]
      simp
  rw [e, ps_ap_sp, a, b, List.append_assoc]
  rfl
/-- the reference's some: the elements inside, or those outside -/
def ps_fs (L : List ps_E) (i j : Nat) (b : Bool) : Nat → List ps_E := fun k => if decide (i ≤ k ∧ k < j) = b then [ps_at L k] else []
theorem ps_fs_len (L : List ps_E) (i j : Nat) (b : Bool) (k : Nat) : (ps_fs L i j b k).length ≤ 1 := by
  unfold ps_fs
  split <;> simp
theorem ps_fs_y {L : List ps_E} {i j : Nat} {b : Bool} {k : Nat} (h : decide (i ≤ k ∧ k < j) = b) : ps_fs L i j b k = [ps_at L k] := if_pos h
theorem ps_fs_n {L : List ps_E} {i j : Nat} {b : Bool} {k : Nat} (h : ¬ decide (i ≤ k ∧ k < j) = b) : ps_fs L i j b k = [] := if_neg h
theorem ps_fs_3 (L : List ps_E) (i j : Nat) (b : Bool) (h1 : i ≤ j) (h2 : j ≤ L.length) : ps_ap (ps_fs L i j b) L.length = ps_ap (ps_fs L i j b) i ++ ps_ap (fun k => ps_fs L i j b (i + k)) (j - i) ++ ps_ap (fun k => ps_fs L i j b (j + k)) (L.length - j) := by
  have e : L.length = j + (L.length - j) := by omega
  have f : j = i + (j - i) := by omega
  have g : ps_ap (ps_fs L i j b) j = ps_ap (ps_fs L i j b) i ++ ps_ap (fun k => ps_fs L i j b (i + k)) (j - i) := by
    have q := ps_ap_sp (ps_fs L i j b) i (j - i)
    rw [← f] at q
    exact q
  rw [← g]
  have q := ps_ap_sp (ps_fs L i j b) j (L.length - j)
  rw [← e] at q
  exact q
theorem ps_fs_t (L : List ps_E) (i j : Nat) (h1 : i ≤ j) (h2 : j ≤ L.length) : ps_ap (ps_fs L i j true) L.length = ps_ap (ps_g L i) (j - i) := by
  rw [ps_fs_3 L i j true h1 h2]
  rw [ps_ap_nl (ps_fs L i j true) i (fun k hk => ps_fs_n (by rw [decide_eq_true_eq]; omega))]
  rw [ps_ap_nl (fun k => ps_fs L i j true (j + k)) (L.length - j) (fun k hk => ps_fs_n (by rw [decide_eq_true_eq]; omega))]
  rw [ps_ap_cg (fun k => ps_fs L i j true (i + k)) (ps_g L i) (j - i) (fun k hk => ps_fs_y (by rw [decide_eq_true_eq]; omega))]
  simp
theorem ps_fs_f (L : List ps_E) (i j : Nat) (h1 : i ≤ j) (h2 : j ≤ L.length) : ps_ap (ps_fs L i j false) L.length = ps_ap (ps_g L 0) i ++ ps_ap (ps_g L j) (L.length - j) := by
  rw [ps_fs_3 L i j false h1 h2]
  rw [ps_ap_cg (ps_fs L i j false) (ps_g L 0) i (fun k hk => by
    rw [ps_fs_y (by rw [decide_eq_false_iff_not]; omega)]
    show [ps_at L k] = [ps_at L (0 + k)]
    rw [Nat.zero_add])]
  rw [ps_ap_nl (fun k => ps_fs L i j false (i + k)) (j - i) (fun k hk => ps_fs_n (by rw [decide_eq_false_iff_not]; omega))]
  rw [ps_ap_cg (fun k => ps_fs L i j false (j + k)) (ps_g L j) (L.length - j) (fun k hk => ps_fs_y (by rw [decide_eq_false_iff_not]; omega))]
  simp
/-- turn: from the last to the first -/
abbrev ps_ft (L : List ps_E) : Nat → List ps_E := fun k => [ps_at L (L.length - 1 - k)]
/-- convert to a list: the keys, or the values -/
abbrev ps_fc (L : List ps_E) (what : Nat) : Nat → List ps_E := fun k => [(if what = 0 then (ps_at L k).1 else (ps_at L k).2, 0)]
theorem ps_fc_z (L : List ps_E) (what n : Nat) : ps_z (ps_ap (ps_fc L what) n) := ps_z_ap _ _ (fun _ _ => ps_z_1 _)
theorem ps_ap_1 (f : Nat → List ps_E) : ∀ n, (∀ k, k < n → (f k).length = 1) → (ps_ap f n).length = n
  | 0, _ => rfl
  | n + 1, h => by
    show (ps_ap f n ++ f n).length = _
    rw [List.length_append, ps_ap_1 f n (fun k hk => h k (Nat.lt_succ_of_lt hk)), h n (Nat.lt_succ_self n)]
/-- the first cell with the key, or none -/
theorem ps_get_fst (k : Int32) : ∀ (D : List ps_E) (i : Nat), i < D.length → (∀ j, j < i → ¬ (ps_at D j).1 = k) → (ps_at D i).1 = k → ps_get k D = some (ps_at D i).2
  | [], _, h, _, _ => absurd h (Nat.not_lt_zero _)
  | e :: t, 0, _, _, q => by
    rw [ps_get]
    exact if_pos q
  | e :: t, i + 1, h, f, q => by
    have f0 : ¬ e.1 = k := f 0 (Nat.zero_lt_succ _)
    rw [ps_get, if_neg f0]
    exact ps_get_fst k t i (Nat.lt_of_succ_lt_succ h) (fun j hj => f (j + 1) (Nat.succ_lt_succ hj)) q
theorem ps_get_all (k : Int32) (D : List ps_E) (h : ∀ j, j < D.length → ¬ (ps_at D j).1 = k) : ps_get k D = none :=
  ps_get_no k D (fun x hx => by
    obtain ⟨i, hi, rfl⟩ := ps_mem_at D x hx
    exact h i hi)
/-- the sum over the k below n with i ≤ k < j -/
def ps_sy (L : List ps_E) (i j : Int32) : Nat → Int64
  | 0 => 0
  | k + 1 => if i ≤ nI k ∧ nI k < j then ps_sy L i j k + (ps_at L k).1.toInt64 else ps_sy L i j k
theorem ps_sy_y {L : List ps_E} {i j : Int32} {k : Nat} (h : i ≤ nI k ∧ nI k < j) : ps_sy L i j (k + 1) = ps_sy L i j k + (ps_at L k).1.toInt64 := by
  rw [ps_sy]; exact if_pos h
theorem ps_sy_n {L : List ps_E} {i j : Int32} {k : Nat} (h : ¬ (i ≤ nI k ∧ nI k < j)) : ps_sy L i j (k + 1) = ps_sy L i j k := by
  rw [ps_sy]; exact if_neg h
theorem ps_sy_c (L : List ps_E) (i j : Int32) (c : Nat) : ∀ d, (∀ k, c ≤ k → k < c + d → ¬ (i ≤ nI k ∧ nI k < j)) → ps_sy L i j (c + d) = ps_sy L i j c
  | 0, _ => rfl
  | d + 1, h => by
    show ps_sy L i j ((c + d) + 1) = _
    rw [ps_sy_n (h (c + d) (by omega) (by omega))]
    exact ps_sy_c L i j c d (fun k h1 h2 => h k h1 (by omega))
theorem ps_sy_0 (L : List ps_E) (i j : Int32) (n : Nat) (h : ∀ k, k < n → ¬ (i ≤ nI k ∧ nI k < j)) : ps_sy L i j n = 0 := by
  have q := ps_sy_c L i j 0 n (fun k _ h2 => h k (by omega))
  rw [Nat.zero_add] at q
  exact q
/-- appending turn by turn to a list that is there -/
def ps_aq (D : List ps_E) (f : Nat → List ps_E) : Nat → List ps_E
  | 0 => D
  | k + 1 => ps_aq D f k ++ f k
theorem ps_aq_eq (D : List ps_E) (f : Nat → List ps_E) : ∀ n, ps_aq D f n = D ++ ps_ap f n
  | 0 => (List.append_nil D).symm
  | n + 1 => by
    show ps_aq D f n ++ f n = D ++ (ps_ap f n ++ f n)
    rw [ps_aq_eq D f n, List.append_assoc]
theorem ps_aq_g (D L : List ps_E) (s n : Nat) : (ps_aq D (ps_g L s) n).length = D.length + n := by
  rw [ps_aq_eq, List.length_append, ps_g_len]
theorem ps_aq_len (D : List ps_E) (f : Nat → List ps_E) (m n : Nat) (h : ∀ k, k < n → (f k).length ≤ m) : (ps_aq D f n).length ≤ D.length + n * m := by
  rw [ps_aq_eq, List.length_append]
  have := ps_ap_len f m n h
  omega
