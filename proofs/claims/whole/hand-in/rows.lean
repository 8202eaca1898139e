section
theorem pk_us {f : Nat → Int32} {k : Nat} {x : Int32} : upd f k x k = x := if_pos rfl
theorem pk_un {f : Nat → Int32} {k j : Nat} {x : Int32} (h : j ≠ k) : upd f k x j = f j := if_neg h
theorem pk_sub {a b : Nat} (h : b ≤ a) : nI a - nI b = nI (a - b) := by
  obtain ⟨c, rfl⟩ : ∃ c, a = c + b := ⟨a - b, by omega⟩
  rw [← nI_add, Int32.add_sub_cancel, Nat.add_sub_cancel]
theorem pk_m1 (n : Nat) : nI (n + 1) + (-1) = nI n := by
  rw [← nI_1, Int32.add_assoc, show (1 : Int32) + (-1) = 0 from rfl, Int32.add_zero]
theorem pk_mul (a b : Nat) : nI a * nI b = nI (a * b) := (Int32.ofNat_mul a b).symm
theorem pk_ix (x : Int32) {n : Nat} (hn : n < 2 ^ 31) : x < 0 ∨ nI n ≤ x ∨ ∃ j : Nat, j < n ∧ x = nI j := by
  by_cases h : x < 0
  · exact Or.inl h
  · obtain ⟨j, hj, rfl⟩ := nI_of h
    by_cases h2 : j < n
    · exact Or.inr (Or.inr ⟨j, h2, rfl⟩)
    · exact Or.inr (Or.inl (nI_le (by omega) hj))
theorem pk_le {x y : Int32} {A B : Prop} (a b : Nat) (f : a ≤ b → A) (g : b < a → B) (hx : x = nI a := by rfl) (hy : y = nI b := by rfl) (ha : a < 2 ^ 31 := by omega) (hb : b < 2 ^ 31 := by omega) : (x ≤ y → A) ∧ (¬ x ≤ y → B) := by
  subst hx hy
  rw [nI_leI ha hb]
  exact ⟨f, fun z => g (by omega)⟩
theorem pk_lt {x y : Int32} {A B : Prop} (a b : Nat) (f : a < b → A) (g : b ≤ a → B) (hx : x = nI a := by rfl) (hy : y = nI b := by rfl) (ha : a < 2 ^ 31 := by omega) (hb : b < 2 ^ 31 := by omega) : (x < y → A) ∧ (¬ x < y → B) := by
  subst hx hy
  rw [nI_ltI ha hb]
  exact ⟨f, fun z => g (by omega)⟩
theorem pk_eq {x y : Int32} {A B : Prop} (a b : Nat) (f : a = b → A) (g : a ≠ b → B) (hx : x = nI a := by rfl) (hy : y = nI b := by rfl) (ha : a < 2 ^ 31 := by omega) (hb : b < 2 ^ 31 := by omega) : (x = y → A) ∧ (¬ x = y → B) := by
  subst hx hy
  rw [nI_eq ha hb]
  exact ⟨f, g⟩
theorem pk_in {x : Int32} (n N : Nat) (h : n < N) (hx : x = nI n := by rfl) (hN : N < 2 ^ 31 := by omega) : vp_in x N := by
  subst hx
  exact vp_in_nI h hN
theorem pk_cl {x : Int32} (n : Nat) (hx : x = nI n := by rfl) (h : n < 2 ^ 31 := by omega) : x.toNatClampNeg = n := by
  subst hx
  exact nI_clamp h
theorem pk_loop {σ : Type} (W : Nat → Nat → σ → Prop) (I : Nat → σ → Prop) (e i0 : Nat) (s : σ) (hi : i0 ≤ e) (h0 : I i0 s) (hx : ∀ n s, I e s → W (n + 1) e s)
    (hs : ∀ n i s, i < e → I i s → (∀ s', I (i + 1) s' → W n (i + 1) s') → W (n + 1) i s) : ∃ n, W n i0 s :=
  ⟨e + 1, loop_i W I e hx hs (e + 1) i0 s hi (by omega) h0⟩
theorem pk_loopD {σ : Type} (W : Nat → Nat → σ → Prop) (I : Nat → σ → Prop) (hx : ∀ n s, I 0 s → W (n + 1) 0 s)
    (hs : ∀ n i s, I (i + 1) s → (∀ s', I i s' → W n i s') → W (n + 1) (i + 1) s) : ∀ (e : Nat) (s : σ), I e s → W (e + 1) e s := by
  intro e
  induction e with
  | zero => exact fun s h => hx 0 s h
  | succ e ih => exact fun s h => hs (e + 1) e s h (fun s' h' => ih s' h')
end
section
/-- a pair of ints: an element of a collection (key and value; a list's value is 0) -/
abbrev ps_E := Int32 × Int32

def ps_at : List ps_E → Nat → ps_E
  | [], _ => (0, 0)
  | e :: _, 0 => e
  | _ :: t, i + 1 => ps_at t i

theorem ps_at_l : ∀ (A B : List ps_E) (i : Nat), i < A.length → ps_at (A ++ B) i = ps_at A i
  | [], _, _, h => absurd h (Nat.not_lt_zero _)
  | _ :: _, _, 0, _ => rfl
  | _ :: t, B, i + 1, h => ps_at_l t B i (Nat.lt_of_succ_lt_succ h)
theorem ps_at_r : ∀ (A B : List ps_E) (i : Nat), ps_at (A ++ B) (A.length + i) = ps_at B i
  | [], B, i => by simp
  | _ :: t, B, i => by
    have e : (t.length + 1) + i = (t.length + i) + 1 := by omega
    simp only [List.length_cons, List.cons_append, e]
    exact ps_at_r t B i
theorem ps_at_n (A : List ps_E) (e : ps_E) : ps_at (A ++ [e]) A.length = e := ps_at_r A [e] 0
theorem ps_at_tk : ∀ (D : List ps_E) (n i : Nat), i < n → ps_at (D.take n) i = ps_at D i
  | [], _, _, _ => by simp
  | _ :: _, 0, _, h => absurd h (Nat.not_lt_zero _)
  | _ :: _, _ + 1, 0, _ => rfl
  | _ :: t, n + 1, i + 1, h => ps_at_tk t n i (Nat.lt_of_succ_lt_succ h)
theorem ps_at_nil (i : Nat) : ps_at [] i = (0, 0) := by cases i <;> rfl
theorem ps_at_dr : ∀ (D : List ps_E) (n i : Nat), ps_at (D.drop n) i = ps_at D (n + i)
  | [], n, i => by simp [ps_at_nil]
  | _ :: _, 0, i => by simp
  | _ :: t, n + 1, i => by
    have e : (n + 1) + i = (n + i) + 1 := by omega
    rw [e, List.drop_succ_cons]
    exact ps_at_dr t n i
theorem ps_tk1 : ∀ (D : List ps_E) (i : Nat), i < D.length → D.take (i + 1) = D.take i ++ [ps_at D i]
  | [], _, h => absurd h (Nat.not_lt_zero _)
  | _ :: _, 0, _ => by simp [ps_at]
  | e :: t, i + 1, h => by
    rw [List.take_succ_cons, List.take_succ_cons, ps_tk1 t i (Nat.lt_of_succ_lt_succ h)]
    rfl
theorem ps_dr1 : ∀ (D : List ps_E) (i : Nat), i < D.length → D.drop i = ps_at D i :: D.drop (i + 1)
  | [], _, h => absurd h (Nat.not_lt_zero _)
  | _ :: _, 0, _ => rfl
  | _ :: t, i + 1, h => by
    rw [List.drop_succ_cons, List.drop_succ_cons]
    exact ps_dr1 t i (Nat.lt_of_succ_lt_succ h)
theorem ps_at_mem : ∀ (D : List ps_E) (i : Nat), i < D.length → ps_at D i ∈ D
  | [], _, h => absurd h (Nat.not_lt_zero _)
  | _ :: _, 0, _ => List.mem_cons_self
  | _ :: t, i + 1, h => List.mem_cons_of_mem _ (ps_at_mem t i (Nat.lt_of_succ_lt_succ h))
theorem ps_mem_at : ∀ (D : List ps_E) (e : ps_E), e ∈ D → ∃ i, i < D.length ∧ ps_at D i = e
  | [], _, h => absurd h (List.not_mem_nil)
  | d :: t, e, h => by
    rcases List.mem_cons.mp h with h | h
    · exact ⟨0, Nat.zero_lt_succ _, h.symm⟩
    · obtain ⟨i, hi, he⟩ := ps_mem_at t e h
      exact ⟨i + 1, Nat.succ_lt_succ hi, he⟩
theorem ps_ext : ∀ (A B : List ps_E), A.length = B.length → (∀ i, i < A.length → ps_at A i = ps_at B i) → A = B
  | [], [], _, _ => rfl
  | [], _ :: _, h, _ => absurd h (by simp)
  | _ :: _, [], h, _ => absurd h (by simp)
  | a :: s, b :: t, h, f => by
    have e : a = b := f 0 (Nat.zero_lt_succ _)
    have r : s = t := ps_ext s t (Nat.succ.inj h) (fun i hi => f (i + 1) (Nat.succ_lt_succ hi))
    rw [e, r]

/-- how many keys, from the front on, are below k -/
def ps_kb (k : Int32) : List ps_E → Nat
  | [] => 0
  | e :: t => if e.1 < k then ps_kb k t + 1 else 0
theorem ps_kb_le (k : Int32) : ∀ D : List ps_E, ps_kb k D ≤ D.length
  | [] => Nat.le_refl _
  | e :: t => by
    have := ps_kb_le k t
    unfold ps_kb
    split
    · simpa using this
    · exact Nat.zero_le _
theorem ps_kb_lt (k : Int32) : ∀ (D : List ps_E) (i : Nat), i < ps_kb k D → (ps_at D i).1 < k
  | [], _, h => absurd h (Nat.not_lt_zero _)
  | e :: t, i, h => by
    unfold ps_kb at h
    by_cases c : e.1 < k
    · rw [if_pos c] at h
      cases i with
      | zero => exact c
      | succ i => exact ps_kb_lt k t i (Nat.lt_of_succ_lt_succ h)
    · rw [if_neg c] at h
      exact absurd h (Nat.not_lt_zero _)
theorem ps_kb_st (k : Int32) : ∀ D : List ps_E, ps_kb k D < D.length → ¬ (ps_at D (ps_kb k D)).1 < k
  | [], h => absurd h (Nat.not_lt_zero _)
  | e :: t, h => by
    unfold ps_kb at h ⊢
    by_cases c : e.1 < k
    · rw [if_pos c] at h ⊢
      exact ps_kb_st k t (Nat.lt_of_succ_lt_succ h)
    · rw [if_neg c]
      exact c
/-- the first stop is the count: what a scan finds -/
theorem ps_kb_un (k : Int32) : ∀ (D : List ps_E) (s : Nat), s ≤ D.length → (∀ i, i < s → (ps_at D i).1 < k) → (s < D.length → ¬ (ps_at D s).1 < k) → ps_kb k D = s
  | [], s, h, _, _ => (Nat.le_zero.mp h).symm
  | e :: t, 0, _, _, g => by
    unfold ps_kb
    exact if_neg (g (Nat.zero_lt_succ _))
  | e :: t, s + 1, h, f, g => by
    unfold ps_kb
    have f0 : e.1 < k := f 0 (Nat.zero_lt_succ _)
    rw [if_pos f0]
    rw [ps_kb_un k t s (Nat.le_of_succ_le_succ h) (fun i hi => f (i + 1) (Nat.succ_lt_succ hi)) (fun hs => g (Nat.succ_lt_succ hs))]

def ps_ins (k v : Int32) : List ps_E → List ps_E
  | [] => [(k, v)]
  | e :: t => if e.1 < k then e :: ps_ins k v t else if e.1 = k then (k, v) :: t else (k, v) :: e :: t
def ps_rm (k : Int32) : List ps_E → List ps_E
  | [] => []
  | e :: t => if e.1 < k then e :: ps_rm k t else if e.1 = k then t else e :: t
def ps_get (k : Int32) : List ps_E → Option Int32
  | [] => none
  | e :: t => if e.1 = k then some e.2 else ps_get k t
def ps_srt : List ps_E → Prop
  | [] => True
  | e :: t => (∀ x, x ∈ t → e.1 < x.1) ∧ ps_srt t

theorem ps_ne {a b : Int32} (h : a < b) : ¬ a = b := fun e => by rw [e] at h; exact absurd h Int32.lt_irrefl
theorem ps_ne' {a b : Int32} (h : a < b) : ¬ b = a := fun e => by rw [e] at h; exact absurd h Int32.lt_irrefl
theorem ps_gt {a b : Int32} (h : ¬ a < b) (e : ¬ a = b) : b < a := by
  rcases Int32.lt_or_lt_of_ne e with z | z
  · exact absurd z h
  · exact z

/-- there is the key k at its spot -/
def ps_hit (k : Int32) (D : List ps_E) : Prop := ps_kb k D < D.length ∧ (ps_at D (ps_kb k D)).1 = k

theorem ps_hit_lt {k : Int32} {e : ps_E} {t : List ps_E} (c : e.1 < k) : ps_hit k (e :: t) ↔ ps_hit k t := by
  unfold ps_hit
  have z : ps_kb k (e :: t) = ps_kb k t + 1 := by rw [ps_kb]; exact if_pos c
  rw [z]
  exact ⟨fun h => ⟨Nat.lt_of_succ_lt_succ h.1, h.2⟩, fun h => ⟨Nat.succ_lt_succ h.1, h.2⟩⟩
theorem ps_hit_z {k : Int32} {e : ps_E} {t : List ps_E} (c : ¬ e.1 < k) : ps_hit k (e :: t) ↔ e.1 = k := by
  unfold ps_hit
  have z : ps_kb k (e :: t) = 0 := by rw [ps_kb]; exact if_neg c
  rw [z]
  exact ⟨fun h => h.2, fun h => ⟨Nat.zero_lt_succ _, h⟩⟩
theorem ps_hit_n {k : Int32} : ¬ ps_hit k [] := fun h => absurd h.1 (Nat.not_lt_zero _)

/-- what is left behind the spot of k, without k -/
theorem ps_ins_y (k v : Int32) : ∀ D : List ps_E, ps_hit k D → ps_ins k v D = D.take (ps_kb k D) ++ (k, v) :: D.drop (ps_kb k D + 1)
  | [], h => absurd h ps_hit_n
  | e :: t, h => by
    by_cases c : e.1 < k
    · have z : ps_kb k (e :: t) = ps_kb k t + 1 := by rw [ps_kb]; exact if_pos c
      rw [z, ps_ins, if_pos c, ps_ins_y k v t ((ps_hit_lt c).mp h)]
      rfl
    · have z : ps_kb k (e :: t) = 0 := by rw [ps_kb]; exact if_neg c
      rw [z, ps_ins, if_neg c, if_pos ((ps_hit_z c).mp h)]
      rfl
theorem ps_ins_n (k v : Int32) : ∀ D : List ps_E, ¬ ps_hit k D → ps_ins k v D = D.take (ps_kb k D) ++ (k, v) :: D.drop (ps_kb k D)
  | [], _ => rfl
  | e :: t, h => by
    by_cases c : e.1 < k
    · have z : ps_kb k (e :: t) = ps_kb k t + 1 := by rw [ps_kb]; exact if_pos c
      rw [z, ps_ins, if_pos c, ps_ins_n k v t (fun q => h ((ps_hit_lt c).mpr q))]
      rfl
    · have z : ps_kb k (e :: t) = 0 := by rw [ps_kb]; exact if_neg c
      rw [z, ps_ins, if_neg c, if_neg (fun q => h ((ps_hit_z c).mpr q))]
      rfl
theorem ps_rm_y (k : Int32) : ∀ D : List ps_E, ps_hit k D → ps_rm k D = D.take (ps_kb k D) ++ D.drop (ps_kb k D + 1)
  | [], h => absurd h ps_hit_n
  | e :: t, h => by
    by_cases c : e.1 < k
    · have z : ps_kb k (e :: t) = ps_kb k t + 1 := by rw [ps_kb]; exact if_pos c
      rw [z, ps_rm, if_pos c, ps_rm_y k t ((ps_hit_lt c).mp h)]
      rfl
    · have z : ps_kb k (e :: t) = 0 := by rw [ps_kb]; exact if_neg c
      rw [z, ps_rm, if_neg c, if_pos ((ps_hit_z c).mp h)]
      rfl
theorem ps_rm_n (k : Int32) : ∀ D : List ps_E, ¬ ps_hit k D → ps_rm k D = D.take (ps_kb k D) ++ D.drop (ps_kb k D)
  | [], _ => rfl
  | e :: t, h => by
    by_cases c : e.1 < k
    · have z : ps_kb k (e :: t) = ps_kb k t + 1 := by rw [ps_kb]; exact if_pos c
      rw [z, ps_rm, if_pos c, ps_rm_n k t (fun q => h ((ps_hit_lt c).mpr q))]
      rfl
    · have z : ps_kb k (e :: t) = 0 := by rw [ps_kb]; exact if_neg c
      rw [z, ps_rm, if_neg c, if_neg (fun q => h ((ps_hit_z c).mpr q))]
      rfl

theorem ps_ins_mem (k v : Int32) : ∀ (D : List ps_E) (x : ps_E), x ∈ ps_ins k v D → x = (k, v) ∨ x ∈ D
  | [], x, h => Or.inl (List.mem_singleton.mp h)
  | e :: t, x, h => by
    unfold ps_ins at h
    by_cases c : e.1 < k
    · rw [if_pos c] at h
      rcases List.mem_cons.mp h with h | h
      · exact Or.inr (h ▸ List.mem_cons_self)
      · rcases ps_ins_mem k v t x h with h | h
        · exact Or.inl h
        · exact Or.inr (List.mem_cons_of_mem _ h)
    · rw [if_neg c] at h
      by_cases q : e.1 = k
      · rw [if_pos q] at h
        rcases List.mem_cons.mp h with h | h
        · exact Or.inl h
        · exact Or.inr (List.mem_cons_of_mem _ h)
      · rw [if_neg q] at h
        rcases List.mem_cons.mp h with h | h
        · exact Or.inl h
        · exact Or.inr h
theorem ps_ins_srt (k v : Int32) : ∀ D : List ps_E, ps_srt D → ps_srt (ps_ins k v D)
  | [], _ => ⟨fun x hx => absurd hx List.not_mem_nil, True.intro⟩
  | e :: t, h => by
    unfold ps_ins
    by_cases c : e.1 < k
    · rw [if_pos c]
      refine ⟨fun x hx => ?_, ps_ins_srt k v t h.2⟩
      rcases ps_ins_mem k v t x hx with hx | hx
      · rw [hx]; exact c
      · exact h.1 x hx
    · rw [if_neg c]
      by_cases q : e.1 = k
      · rw [if_pos q]
        exact ⟨fun x hx => by rw [← q]; exact h.1 x hx, h.2⟩
      · rw [if_neg q]
        refine ⟨fun x hx => ?_, h⟩
        have g : k < e.1 := ps_gt c q
        rcases List.mem_cons.mp hx with hx | hx
        · rw [hx]; exact g
        · exact Int32.lt_trans g (h.1 x hx)
theorem ps_ins_len (k v : Int32) : ∀ D : List ps_E, (ps_ins k v D).length ≤ D.length + 1
  | [] => Nat.le_refl _
  | e :: t => by
    unfold ps_ins
    split
    · have := ps_ins_len k v t
      simpa using this
    · split <;> simp
theorem ps_ins_get (k v j : Int32) : ∀ D : List ps_E, ps_get j (ps_ins k v D) = if j = k then some v else ps_get j D
  | [] => by
    unfold ps_ins ps_get ps_get
    by_cases q : k = j
    · rw [if_pos q, if_pos q.symm]
    · rw [if_neg q, if_neg (fun z => q z.symm)]
  | e :: t => by
    unfold ps_ins
    by_cases c : e.1 < k
    · rw [if_pos c, ps_get, ps_ins_get k v j t, ps_get]
      by_cases q : e.1 = j
      · rw [if_pos q, if_pos q, if_neg (fun z => ps_ne c (q.trans z))]
      · rw [if_neg q, if_neg q]
    · rw [if_neg c]
      by_cases q : e.1 = k
      · rw [if_pos q, ps_get, ps_get]
        by_cases z : k = j
        · rw [if_pos z, if_pos z.symm]
        · rw [if_neg z, if_neg (fun y => z y.symm), if_neg (fun y => z (q.symm.trans y))]
      · rw [if_neg q, ps_get]
        by_cases z : k = j
        · rw [if_pos z, if_pos z.symm]
        · rw [if_neg z, if_neg (fun y => z y.symm)]
/-- nothing is there below or beside sorted keys -/
theorem ps_get_no (j : Int32) : ∀ D : List ps_E, (∀ x, x ∈ D → ¬ x.1 = j) → ps_get j D = none
  | [], _ => rfl
  | e :: t, h => by
    rw [ps_get, if_neg (h e List.mem_cons_self)]
    exact ps_get_no j t (fun x hx => h x (List.mem_cons_of_mem _ hx))
theorem ps_get_mem (j v : Int32) : ∀ D : List ps_E, ps_get j D = some v → (j, v) ∈ D
  | [], h => by simp [ps_get] at h
  | e :: t, h => by
    rw [ps_get] at h
    by_cases q : e.1 = j
    · rw [if_pos q] at h
      have : e = (j, v) := by
        cases e
        simp only [Option.some.injEq] at h
        exact Prod.ext q h
      rw [this]; exact List.mem_cons_self
    · rw [if_neg q] at h
      exact List.mem_cons_of_mem _ (ps_get_mem j v t h)
theorem ps_get_tl {e : ps_E} {t : List ps_E} (h : ps_srt (e :: t)) : ps_get e.1 t = none :=
  ps_get_no _ _ (fun x hx => ps_ne' (h.1 x hx))
theorem ps_rm_mem (k : Int32) : ∀ (D : List ps_E) (x : ps_E), x ∈ ps_rm k D → x ∈ D
  | [], x, h => h
  | e :: t, x, h => by
    unfold ps_rm at h
    by_cases c : e.1 < k
    · rw [if_pos c] at h
      rcases List.mem_cons.mp h with h | h
      · exact h ▸ List.mem_cons_self
      · exact List.mem_cons_of_mem _ (ps_rm_mem k t x h)
    · rw [if_neg c] at h
      by_cases q : e.1 = k
      · rw [if_pos q] at h
        exact List.mem_cons_of_mem _ h
      · rw [if_neg q] at h
        exact h
theorem ps_rm_srt (k : Int32) : ∀ D : List ps_E, ps_srt D → ps_srt (ps_rm k D)
  | [], _ => True.intro
  | e :: t, h => by
    unfold ps_rm
    by_cases c : e.1 < k
    · rw [if_pos c]
      exact ⟨fun x hx => h.1 x (ps_rm_mem k t x hx), ps_rm_srt k t h.2⟩
    · rw [if_neg c]
      by_cases q : e.1 = k
      · rw [if_pos q]; exact h.2
      · rw [if_neg q]; exact h
theorem ps_rm_get (k j : Int32) : ∀ D : List ps_E, ps_srt D → ps_get j (ps_rm k D) = if j = k then none else ps_get j D
  | [], _ => by
    unfold ps_rm ps_get
    split <;> rfl
  | e :: t, h => by
    unfold ps_rm
    by_cases c : e.1 < k
    · rw [if_pos c, ps_get, ps_rm_get k j t h.2, ps_get]
      by_cases q : e.1 = j
      · rw [if_pos q, if_pos q, if_neg (fun z => ps_ne c (q.trans z))]
      · rw [if_neg q, if_neg q]
    · rw [if_neg c]
      by_cases q : e.1 = k
      · rw [if_pos q]
        by_cases z : j = k
        · rw [if_pos z, z, ← q]; exact ps_get_tl h
        · rw [if_neg z, ps_get, if_neg (fun y => z (y.symm.trans q))]
      · rw [if_neg q]
        by_cases z : j = k
        · rw [if_pos z, z]
          refine ps_get_no _ _ (fun x hx => ?_)
          have g : k < e.1 := ps_gt c q
          rcases List.mem_cons.mp hx with hx | hx
          · rw [hx]; exact q
          · exact ps_ne' (Int32.lt_trans g (h.1 x hx))
        · rw [if_neg z]

/-- two risings with the same look-ups are one -/
theorem ps_sext : ∀ A B : List ps_E, ps_srt A → ps_srt B → (∀ j, ps_get j A = ps_get j B) → A = B
  | [], [], _, _, _ => rfl
  | [], f :: t, _, _, h => by
    have := h f.1
    rw [ps_get, ps_get, if_pos rfl] at this
    cases this
  | e :: s, [], _, _, h => by
    have := h e.1
    rw [ps_get, ps_get, if_pos rfl] at this
    cases this
  | e :: s, f :: t, ha, hb, h => by
    have k1 : ¬ e.1 < f.1 := fun c => by
      have q := h e.1
      rw [ps_get, if_pos rfl] at q
      have n : ps_get e.1 (f :: t) = none := ps_get_no _ _ (fun x hx => by
        rcases List.mem_cons.mp hx with hx | hx
        · rw [hx]; exact ps_ne' c
        · exact ps_ne' (Int32.lt_trans c (hb.1 x hx)))
      rw [n] at q
      cases q
    have k2 : ¬ f.1 < e.1 := fun c => by
      have q := h f.1
      have n : ps_get f.1 (e :: s) = none := ps_get_no _ _ (fun x hx => by
        rcases List.mem_cons.mp hx with hx | hx
        · rw [hx]; exact ps_ne' c
        · exact ps_ne' (Int32.lt_trans c (ha.1 x hx)))
      rw [n, ps_get, if_pos rfl] at q
      cases q
    have k : e.1 = f.1 := by
      by_cases z : e.1 = f.1
      · exact z
      · exact absurd (ps_gt k1 z) k2
    have w : e.2 = f.2 := by
      have q := h e.1
      rw [ps_get, if_pos rfl, ps_get, if_pos k.symm] at q
      exact Option.some.inj q
    have r : s = t := by
      refine ps_sext s t ha.2 hb.2 (fun j => ?_)
      by_cases z : e.1 = j
      · have a1 : ps_get j s = none := by rw [← z]; exact ps_get_tl ha
        have a2 : ps_get j t = none := by rw [← z, k]; exact ps_get_tl hb
        rw [a1, a2]
      · have q := h j
        rw [ps_get, if_neg z, ps_get, if_neg (fun y => z (k.trans y))] at q
        exact q
    rw [r, Prod.ext k w]

/-- one turn of the reference's loops: an element goes in, with a value of its own, or not -/
def ps_st (phi : Int32 → Int32 → Option Int32) (D : List ps_E) (e : ps_E) : List ps_E :=
  match phi e.1 e.2 with
  | none => D
  | some z => ps_ins e.1 z D
def ps_fo (phi : Int32 → Int32 → Option Int32) (D : List ps_E) (L : List ps_E) : List ps_E := L.foldl (ps_st phi) D
theorem ps_fo_1 (phi : Int32 → Int32 → Option Int32) (D L : List ps_E) (i : Nat) (h : i < L.length) :
    ps_fo phi D (L.take (i + 1)) = ps_st phi (ps_fo phi D (L.take i)) (ps_at L i) := by
  unfold ps_fo
  rw [ps_tk1 L i h, List.foldl_append]
  rfl
theorem ps_st_n {phi : Int32 → Int32 → Option Int32} {D : List ps_E} {e : ps_E} (h : phi e.1 e.2 = none) : ps_st phi D e = D := by
  unfold ps_st; rw [h]
theorem ps_st_s {phi : Int32 → Int32 → Option Int32} {D : List ps_E} {e : ps_E} {z : Int32} (h : phi e.1 e.2 = some z) : ps_st phi D e = ps_ins e.1 z D := by
  unfold ps_st; rw [h]
theorem ps_st_srt {phi : Int32 → Int32 → Option Int32} {D : List ps_E} {e : ps_E} (h : ps_srt D) : ps_srt (ps_st phi D e) := by
  cases q : phi e.1 e.2 with
  | none => rw [ps_st_n q]; exact h
  | some z => rw [ps_st_s q]; exact ps_ins_srt _ _ _ h
theorem ps_st_len {phi : Int32 → Int32 → Option Int32} {D : List ps_E} {e : ps_E} : (ps_st phi D e).length ≤ D.length + 1 := by
  cases q : phi e.1 e.2 with
  | none => rw [ps_st_n q]; exact Nat.le_succ _
  | some z => rw [ps_st_s q]; exact ps_ins_len _ _ _
theorem ps_fo_srt (phi : Int32 → Int32 → Option Int32) : ∀ (L D : List ps_E), ps_srt D → ps_srt (ps_fo phi D L)
  | [], _, h => h
  | e :: t, D, h => ps_fo_srt phi t (ps_st phi D e) (ps_st_srt h)
theorem ps_fo_len (phi : Int32 → Int32 → Option Int32) : ∀ (L D : List ps_E), (ps_fo phi D L).length ≤ D.length + L.length
  | [], _ => Nat.le_refl _
  | e :: t, D => by
    have h := ps_fo_len phi t (ps_st phi D e)
    have h2 := ps_st_len (phi := phi) (D := D) (e := e)
    have h3 : ps_fo phi D (e :: t) = ps_fo phi (ps_st phi D e) t := rfl
    rw [h3, List.length_cons]
    omega
/-- what a rising list leaves of an earlier look-up -/
def ps_ov (phi : Int32 → Int32 → Option Int32) (j : Int32) (a d : Option Int32) : Option Int32 :=
  match a with
  | none => d
  | some v => match phi j v with
    | none => d
    | some z => some z
theorem ps_fo_get (phi : Int32 → Int32 → Option Int32) (j : Int32) : ∀ (L D : List ps_E), ps_srt L → ps_get j (ps_fo phi D L) = ps_ov phi j (ps_get j L) (ps_get j D)
  | [], _, _ => rfl
  | e :: t, D, h => by
    have h3 : ps_fo phi D (e :: t) = ps_fo phi (ps_st phi D e) t := rfl
    rw [h3, ps_fo_get phi j t (ps_st phi D e) h.2]
    by_cases q : e.1 = j
    · have n : ps_get j t = none := by rw [← q]; exact ps_get_tl h
      have y : ps_get j (e :: t) = some e.2 := by rw [ps_get, if_pos q]
      rw [n, y]
      unfold ps_ov
      dsimp only
      rw [← q]
      cases w : phi e.1 e.2 with
      | none => rw [ps_st_n w]
      | some z => rw [ps_st_s w, ps_ins_get, if_pos rfl]
    · have y : ps_get j (e :: t) = ps_get j t := by rw [ps_get, if_neg q]
      have d : ps_get j (ps_st phi D e) = ps_get j D := by
        cases w : phi e.1 e.2 with
        | none => rw [ps_st_n w]
        | some z => rw [ps_st_s w, ps_ins_get, if_neg (fun y => q y.symm)]
      rw [y, d]

/-- remove: the reference takes all others, one by one -/
def ps_prm (k : Int32) : Int32 → Int32 → Option Int32 := fun j v => if j = k then none else some v
theorem ps_rm_fo (k : Int32) (L : List ps_E) (h : ps_srt L) : ps_fo (ps_prm k) [] L = ps_rm k L := by
  refine ps_sext _ _ (ps_fo_srt _ _ _ True.intro) (ps_rm_srt _ _ h) (fun j => ?_)
  rw [ps_fo_get _ _ _ _ h, ps_rm_get _ _ _ h]
  unfold ps_ov ps_prm
  cases ps_get j L with
  | none =>
    by_cases q : j = k
    · rw [if_pos q]; rfl
    · rw [if_neg q]; rfl
  | some v =>
    dsimp only
    by_cases q : j = k
    · rw [if_pos q]; rfl
    · rw [if_neg q]

/-- merge: what becomes of a key by how -/
def ps_vv (how : Nat) (v w : Int32) : Int32 := if how = 1 then w else if how = 2 then v + w else v
def ps_cb (how : Nat) : Option Int32 → Option Int32 → Option Int32
  | none, none => none
  | some v, none => if how = 3 then none else some v
  | none, some w => if how = 3 ∨ how = 4 then none else some w
  | some v, some w => if how = 4 ∨ how = 5 then none else some (ps_vv how v w)
def ps_o (k : Int32) : Option Int32 → List ps_E
  | none => []
  | some z => [(k, z)]
def ps_mg (how : Nat) : Nat → List ps_E → List ps_E → List ps_E
  | 0, _, _ => []
  | _ + 1, [], [] => []
  | n + 1, e :: s, [] => ps_o e.1 (ps_cb how (some e.2) none) ++ ps_mg how n s []
  | n + 1, [], f :: t => ps_o f.1 (ps_cb how none (some f.2)) ++ ps_mg how n [] t
  | n + 1, e :: s, f :: t =>
    if e.1 < f.1 then ps_o e.1 (ps_cb how (some e.2) none) ++ ps_mg how n s (f :: t)
    else if f.1 < e.1 then ps_o f.1 (ps_cb how none (some f.2)) ++ ps_mg how n (e :: s) t
    else ps_o e.1 (ps_cb how (some e.2) (some f.2)) ++ ps_mg how n s t
def ps_lb (k : Int32) (D : List ps_E) : Prop := ∀ x, x ∈ D → k < x.1
theorem ps_lb_n {k : Int32} : ps_lb k [] := fun _ h => absurd h List.not_mem_nil
theorem ps_lb_c {k : Int32} {e : ps_E} {t : List ps_E} (h : k < e.1) (g : ps_lb k t) : ps_lb k (e :: t) := fun x hx => by
  rcases List.mem_cons.mp hx with hx | hx
  · rw [hx]; exact h
  · exact g x hx
theorem ps_lb_h {k : Int32} {e : ps_E} {t : List ps_E} (h : ps_lb k (e :: t)) : k < e.1 := h e List.mem_cons_self
theorem ps_lb_t {k : Int32} {e : ps_E} {t : List ps_E} (h : ps_lb k (e :: t)) : ps_lb k t := fun x hx => h x (List.mem_cons_of_mem _ hx)
theorem ps_lb_o {k a : Int32} {z : Option Int32} {M : List ps_E} (h : k < a) (g : ps_lb k M) : ps_lb k (ps_o a z ++ M) := by
  cases z with
  | none => exact g
  | some z => exact ps_lb_c h g
theorem ps_lb_tr {k a : Int32} {M : List ps_E} (h : k < a) (g : ps_lb a M) : ps_lb k M := fun x hx => Int32.lt_trans h (g x hx)
theorem ps_lb_get {k : Int32} {M : List ps_E} (g : ps_lb k M) : ps_get k M = none := ps_get_no _ _ (fun x hx => ps_ne' (g x hx))
theorem ps_o_srt {k : Int32} {z : Option Int32} {M : List ps_E} (h : ps_lb k M) (g : ps_srt M) : ps_srt (ps_o k z ++ M) := by
  cases z with
  | none => exact g
  | some z => exact ⟨h, g⟩
theorem ps_o_get {k j : Int32} {z : Option Int32} {M : List ps_E} (h : ps_lb k M) : ps_get j (ps_o k z ++ M) = if j = k then z else ps_get j M := by
  cases z with
  | none =>
    show ps_get j M = _
    by_cases q : j = k
    · rw [if_pos q, q]; exact ps_lb_get h
    · rw [if_neg q]
  | some z =>
    show ps_get j ((k, z) :: M) = _
    rw [ps_get]
    by_cases q : j = k
    · rw [if_pos q, if_pos q.symm]
    · rw [if_neg q, if_neg (fun y => q y.symm)]
theorem ps_mg_lb (how : Nat) (k : Int32) : ∀ (n : Nat) (A B : List ps_E), ps_lb k A → ps_lb k B → ps_lb k (ps_mg how n A B)
  | 0, _, _, _, _ => by rw [ps_mg]; exact ps_lb_n
  | _ + 1, [], [], _, _ => by rw [ps_mg]; exact ps_lb_n
  | n + 1, e :: s, [], ha, hb => by rw [ps_mg]; exact ps_lb_o (ps_lb_h ha) (ps_mg_lb how k n s [] (ps_lb_t ha) hb)
  | n + 1, [], f :: t, ha, hb => by rw [ps_mg]; exact ps_lb_o (ps_lb_h hb) (ps_mg_lb how k n [] t ha (ps_lb_t hb))
  | n + 1, e :: s, f :: t, ha, hb => by
    rw [ps_mg]
    split
    · exact ps_lb_o (ps_lb_h ha) (ps_mg_lb how k n s (f :: t) (ps_lb_t ha) hb)
    · split
      · exact ps_lb_o (ps_lb_h hb) (ps_mg_lb how k n (e :: s) t ha (ps_lb_t hb))
      · exact ps_lb_o (ps_lb_h ha) (ps_mg_lb how k n s t (ps_lb_t ha) (ps_lb_t hb))
theorem ps_get_y {e : ps_E} {t : List ps_E} {j : Int32} (h : j = e.1) : ps_get j (e :: t) = some e.2 := by rw [ps_get, if_pos h.symm]
theorem ps_get_z {e : ps_E} {t : List ps_E} {j : Int32} (h : ¬ j = e.1) : ps_get j (e :: t) = ps_get j t := by rw [ps_get, if_neg (fun y => h y.symm)]
theorem ps_mg_ok (how : Nat) : ∀ (n : Nat) (A B : List ps_E), A.length + B.length ≤ n → ps_srt A → ps_srt B →
    ps_srt (ps_mg how n A B) ∧ ∀ j, ps_get j (ps_mg how n A B) = ps_cb how (ps_get j A) (ps_get j B)
  | 0, [], [], _, _, _ => by rw [ps_mg]; exact ⟨True.intro, fun _ => rfl⟩
  | 0, _ :: _, _, h, _, _ => by simp at h
  | 0, [], _ :: _, h, _, _ => by simp at h
  | _ + 1, [], [], _, _, _ => by rw [ps_mg]; exact ⟨True.intro, fun _ => rfl⟩
  | n + 1, e :: s, [], h, ha, hb => by
    have i := ps_mg_ok how n s [] (by simp at h ⊢; omega) ha.2 hb
    have l : ps_lb e.1 (ps_mg how n s []) := ps_mg_lb how e.1 n s [] ha.1 ps_lb_n
    rw [ps_mg]
    refine ⟨ps_o_srt l i.1, fun j => ?_⟩
    rw [ps_o_get l]
    by_cases q : j = e.1
    · rw [if_pos q, ps_get_y q]; rfl
    · rw [if_neg q, ps_get_z q]; exact i.2 j
  | n + 1, [], f :: t, h, ha, hb => by
    have i := ps_mg_ok how n [] t (by simp at h ⊢; omega) ha hb.2
    have l : ps_lb f.1 (ps_mg how n [] t) := ps_mg_lb how f.1 n [] t ps_lb_n hb.1
    rw [ps_mg]
    refine ⟨ps_o_srt l i.1, fun j => ?_⟩
    rw [ps_o_get l]
    by_cases q : j = f.1
    · rw [if_pos q, ps_get_y q]; rfl
    · rw [if_neg q, ps_get_z q]; exact i.2 j
  | n + 1, e :: s, f :: t, h, ha, hb => by
    rw [ps_mg]
    by_cases c : e.1 < f.1
    · rw [if_pos c]
      have i := ps_mg_ok how n s (f :: t) (by simp at h ⊢; omega) ha.2 hb
      have lf : ps_lb e.1 (f :: t) := ps_lb_c c (ps_lb_tr c hb.1)
      have l : ps_lb e.1 (ps_mg how n s (f :: t)) := ps_mg_lb how e.1 n s (f :: t) ha.1 lf
      refine ⟨ps_o_srt l i.1, fun j => ?_⟩
      rw [ps_o_get l]
      by_cases q : j = e.1
      · rw [if_pos q, ps_get_y q, q, ps_lb_get lf]
      · rw [if_neg q, ps_get_z (e := e) q]; exact i.2 j
    · rw [if_neg c]
      by_cases d : f.1 < e.1
      · rw [if_pos d]
        have i := ps_mg_ok how n (e :: s) t (by simp at h ⊢; omega) ha hb.2
        have le : ps_lb f.1 (e :: s) := ps_lb_c d (ps_lb_tr d ha.1)
        have l : ps_lb f.1 (ps_mg how n (e :: s) t) := ps_mg_lb how f.1 n (e :: s) t le hb.1
        refine ⟨ps_o_srt l i.1, fun j => ?_⟩
        rw [ps_o_get l]
        by_cases q : j = f.1
        · rw [if_pos q, ps_get_y (e := f) q, q, ps_lb_get le]
        · rw [if_neg q, ps_get_z (e := f) q]; exact i.2 j
      · rw [if_neg d]
        have k : e.1 = f.1 := by
          by_cases z : e.1 = f.1
          · exact z
          · exact absurd (ps_gt c z) d
        have i := ps_mg_ok how n s t (by simp at h ⊢; omega) ha.2 hb.2
        have l : ps_lb e.1 (ps_mg how n s t) := ps_mg_lb how e.1 n s t ha.1 (by rw [k]; exact hb.1)
        refine ⟨ps_o_srt l i.1, fun j => ?_⟩
        rw [ps_o_get l]
        by_cases q : j = e.1
        · rw [if_pos q, ps_get_y (e := e) q, ps_get_y (e := f) (q.trans k)]
        · rw [if_neg q, ps_get_z (e := e) q, ps_get_z (e := f) (fun y => q (y.trans k.symm))]; exact i.2 j
def ps_p1 (how : Nat) (B : List ps_E) : Int32 → Int32 → Option Int32 := fun j v => ps_cb how (some v) (ps_get j B)
def ps_p2 (how : Nat) (A : List ps_E) : Int32 → Int32 → Option Int32 := fun j w => match ps_get j A with
  | none => ps_cb how none (some w)
  | some _ => none
theorem ps_mg_fo (how n : Nat) (A B : List ps_E) (h : A.length + B.length ≤ n) (ha : ps_srt A) (hb : ps_srt B) :
    ps_fo (ps_p2 how A) (ps_fo (ps_p1 how B) [] A) B = ps_mg how n A B := by
  have m := ps_mg_ok how n A B h ha hb
  refine ps_sext _ _ (ps_fo_srt _ _ _ (ps_fo_srt _ _ _ True.intro)) m.1 (fun j => ?_)
  rw [m.2 j, ps_fo_get _ _ _ _ hb, ps_fo_get _ _ _ _ ha]
  show ps_ov (ps_p2 how A) j (ps_get j B) (ps_ov (ps_p1 how B) j (ps_get j A) none) = _
  unfold ps_ov ps_p1 ps_p2
  cases ps_get j A with
  | none =>
    cases ps_get j B with
    | none => rfl
    | some w => dsimp only; cases ps_cb how none (some w) <;> rfl
  | some v =>
    cases ps_get j B with
    | none => dsimp only; cases ps_cb how (some v) none <;> rfl
    | some w => dsimp only; cases ps_cb how (some v) (some w) <;> rfl

/-- the look-up in a rising list is at the spot of the key -/
theorem ps_get_hit (k : Int32) : ∀ D : List ps_E, ps_hit k D → ps_get k D = some (ps_at D (ps_kb k D)).2
  | [], h => absurd h ps_hit_n
  | e :: t, h => by
    by_cases c : e.1 < k
    · have z : ps_kb k (e :: t) = ps_kb k t + 1 := by rw [ps_kb]; exact if_pos c
      rw [z, ps_get, if_neg (ps_ne c), ps_get_hit k t ((ps_hit_lt c).mp h)]
      rfl
    · have z : ps_kb k (e :: t) = 0 := by rw [ps_kb]; exact if_neg c
      rw [z, ps_get, if_pos ((ps_hit_z c).mp h)]
      rfl
theorem ps_get_nhit (k : Int32) : ∀ D : List ps_E, ps_srt D → ¬ ps_hit k D → ps_get k D = none
  | [], _, _ => rfl
  | e :: t, s, h => by
    by_cases c : e.1 < k
    · rw [ps_get, if_neg (ps_ne c)]
      exact ps_get_nhit k t s.2 (fun q => h ((ps_hit_lt c).mpr q))
    · have n : ¬ e.1 = k := fun q => h ((ps_hit_z c).mpr q)
      have g : k < e.1 := ps_gt c n
      exact ps_lb_get (ps_lb_c g (ps_lb_tr g s.1))

/-- convert from a list: X's map and Y's, after i elements -/
def ps_cnt (L : List ps_E) (j : Int32) : Nat → Nat
  | 0 => 0
  | i + 1 => if (ps_at L i).1 = j then ps_cnt L j i + 1 else ps_cnt L j i
def ps_tx (what : Nat) (L : List ps_E) : Nat → List ps_E
  | 0 => []
  | i + 1 => ps_ins (ps_at L i).1 (if what = 2 then (ps_get (ps_at L i).1 (ps_tx what L i)).getD 0 + 1 else nI i) (ps_tx what L i)
def ps_ty (what : Nat) (L : List ps_E) : Nat → List ps_E
  | 0 => []
  | i + 1 => ps_ins (ps_at L i).1 (if what = 2 then nI (ps_cnt L (ps_at L i).1 L.length) else nI i) (ps_ty what L i)
theorem ps_tx_srt (what : Nat) (L : List ps_E) : ∀ i, ps_srt (ps_tx what L i)
  | 0 => True.intro
  | i + 1 => ps_ins_srt _ _ _ (ps_tx_srt what L i)
theorem ps_ty_srt (what : Nat) (L : List ps_E) : ∀ i, ps_srt (ps_ty what L i)
  | 0 => True.intro
  | i + 1 => ps_ins_srt _ _ _ (ps_ty_srt what L i)
theorem ps_tx_len (what : Nat) (L : List ps_E) : ∀ i, (ps_tx what L i).length ≤ i
  | 0 => Nat.le_refl _
  | i + 1 => Nat.le_trans (ps_ins_len _ _ _) (Nat.succ_le_succ (ps_tx_len what L i))
theorem ps_ty_len (what : Nat) (L : List ps_E) : ∀ i, (ps_ty what L i).length ≤ i
  | 0 => Nat.le_refl _
  | i + 1 => Nat.le_trans (ps_ins_len _ _ _) (Nat.succ_le_succ (ps_ty_len what L i))
theorem ps_tx_get (L : List ps_E) (j : Int32) : ∀ i, ps_get j (ps_tx 2 L i) = if ps_cnt L j i = 0 then none else some (nI (ps_cnt L j i))
  | 0 => rfl
  | i + 1 => by
    rw [ps_tx, ps_ins_get, ps_cnt]
    by_cases q : (ps_at L i).1 = j
    · rw [if_pos q.symm, if_pos q, if_pos rfl, q, ps_tx_get L j i, if_neg (Nat.succ_ne_zero _)]
      by_cases z : ps_cnt L j i = 0
      · rw [if_pos z, z]; rfl
      · rw [if_neg z, ← nI_1]; rfl
    · rw [if_neg (fun y => q y.symm), if_neg q]
      exact ps_tx_get L j i
theorem ps_ty_get (L : List ps_E) (j : Int32) : ∀ i, ps_get j (ps_ty 2 L i) = if ps_cnt L j i = 0 then none else some (nI (ps_cnt L j L.length))
  | 0 => rfl
  | i + 1 => by
    rw [ps_ty, ps_ins_get, ps_cnt]
    by_cases q : (ps_at L i).1 = j
    · rw [if_pos q.symm, if_pos q, if_pos rfl, q, if_neg (Nat.succ_ne_zero _)]
    · rw [if_neg (fun y => q y.symm), if_neg q]
      exact ps_ty_get L j i
theorem ps_txy3 (what : Nat) (h : ¬ what = 2) (L : List ps_E) : ∀ i, ps_tx what L i = ps_ty what L i
  | 0 => rfl
  | i + 1 => by rw [ps_tx, ps_ty, if_neg h, if_neg h, ps_txy3 what h L i]
theorem ps_txy (what : Nat) (L : List ps_E) : ps_tx what L L.length = ps_ty what L L.length := by
  by_cases h : what = 2
  · rw [h]
    refine ps_sext _ _ (ps_tx_srt _ _ _) (ps_ty_srt _ _ _) (fun j => ?_)
    rw [ps_tx_get, ps_ty_get]
  · exact ps_txy3 what h L _
end
section
/-- lists made by appending, a turn at a time -/
def ps_ap (f : Nat → List ps_E) : Nat → List ps_E
  | 0 => []
  | k + 1 => ps_ap f k ++ f k
theorem ps_ap_sp (f : Nat → List ps_E) (a : Nat) : ∀ b, ps_ap f (a + b) = ps_ap f a ++ ps_ap (fun k => f (a + k)) b
  | 0 => by simp [ps_ap]
  | b + 1 => by
    show ps_ap f (a + b) ++ f (a + b) = ps_ap f a ++ (ps_ap (fun k => f (a + k)) b ++ f (a + b))
    rw [ps_ap_sp f a b, List.append_assoc]
theorem ps_ap_cg (f g : Nat → List ps_E) : ∀ n, (∀ k, k < n → f k = g k) → ps_ap f n = ps_ap g n
  | 0, _ => rfl
  | n + 1, h => by
    show ps_ap f n ++ f n = ps_ap g n ++ g n
    rw [ps_ap_cg f g n (fun k hk => h k (Nat.lt_succ_of_lt hk)), h n (Nat.lt_succ_self n)]
theorem ps_ap_nl (f : Nat → List ps_E) : ∀ n, (∀ k, k < n → f k = []) → ps_ap f n = []
  | 0, _ => rfl
  | n + 1, h => by
    show ps_ap f n ++ f n = []
    rw [ps_ap_nl f n (fun k hk => h k (Nat.lt_succ_of_lt hk)), h n (Nat.lt_succ_self n)]
    rfl
theorem ps_ap_len (f : Nat → List ps_E) (m : Nat) : ∀ n, (∀ k, k < n → (f k).length ≤ m) → (ps_ap f n).length ≤ n * m
  | 0, _ => Nat.zero_le _
  | n + 1, h => by
    have h1 := ps_ap_len f m n (fun k hk => h k (Nat.lt_succ_of_lt hk))
    have h2 := h n (Nat.lt_succ_self n)
    show (ps_ap f n ++ f n).length ≤ _
    rw [List.length_append, Nat.succ_mul]
    omega
/-- second parts are 0 -/
def ps_z (D : List ps_E) : Prop := ∀ e, e ∈ D → e.2 = 0
theorem ps_z_n : ps_z [] := fun _ h => absurd h List.not_mem_nil
theorem ps_z_1 (v : Int32) : ps_z [(v, 0)] := fun e h => by rw [List.mem_singleton.mp h]
theorem ps_z_a {A B : List ps_E} (h : ps_z A) (g : ps_z B) : ps_z (A ++ B) := fun e he => by
  rcases List.mem_append.mp he with he | he
  · exact h e he
  · exact g e he
theorem ps_z_at {D : List ps_E} (h : ps_z D) (i : Nat) : (ps_at D i).2 = 0 := by
  by_cases c : i < D.length
  · exact h _ (ps_at_mem D i c)
  · have e : ps_at D i = (0, 0) := by
      have q := ps_at_dr D i 0
      rw [List.drop_eq_nil_of_le (by omega)] at q
      exact q.symm
    rw [e]
theorem ps_z_e {D : List ps_E} (h : ps_z D) (i : Nat) : ps_z [ps_at D i] := fun e he => by
  rw [List.mem_singleton.mp he]; exact ps_z_at h i
theorem ps_z_ap (f : Nat → List ps_E) : ∀ n, (∀ k, k < n → ps_z (f k)) → ps_z (ps_ap f n)
  | 0, _ => ps_z_n
  | n + 1, h => ps_z_a (ps_z_ap f n (fun k hk => h k (Nat.lt_succ_of_lt hk))) (h n (Nat.lt_succ_self n))
theorem ps_z_pr {D : List ps_E} (h : ps_z D) (i : Nat) : ((ps_at D i).1, (0 : Int32)) = ps_at D i := by
  have := ps_z_at h i
  cases q : ps_at D i with
  | mk x y => rw [q] at this; exact congrArg (Prod.mk x) this.symm
/-- a stretch of a list -/
abbrev ps_g (L : List ps_E) (s : Nat) : Nat → List ps_E := fun k => [ps_at L (s + k)]
theorem ps_g_tk (L : List ps_E) (s : Nat) : ∀ c, s + c ≤ L.length → ps_ap (ps_g L s) c = (L.drop s).take c
  | 0, _ => by simp [ps_ap]
  | c + 1, h => by
    have l : c < (L.drop s).length := by rw [List.length_drop]; omega
    show ps_ap (ps_g L s) c ++ [ps_at L (s + c)] = _
    rw [ps_g_tk L s c (by omega), ps_tk1 (L.drop s) c l, ps_at_dr]
theorem ps_g_all (L : List ps_E) : ps_ap (ps_g L 0) L.length = L := by
  rw [ps_g_tk L 0 L.length (by omega)]
  simp
theorem ps_g_0 (L : List ps_E) (c : Nat) (h : c ≤ L.length) : ps_ap (ps_g L 0) c = L.take c := by
  rw [ps_g_tk L 0 c (by omega)]
  simp
theorem ps_g_end (L : List ps_E) (s : Nat) (h : s ≤ L.length) : ps_ap (ps_g L s) (L.length - s) = L.drop s := by
  rw [ps_g_tk L s _ (by omega), List.take_of_length_le (by rw [List.length_drop]; omega)]
theorem ps_g_len (L : List ps_E) (s : Nat) : ∀ c, (ps_ap (ps_g L s) c).length = c
  | 0 => rfl
  | c + 1 => by
    show (ps_ap (ps_g L s) c ++ [ps_at L (s + c)]).length = _
    rw [List.length_append, ps_g_len L s c]
    rfl
theorem ps_g_z {L : List ps_E} (h : ps_z L) (s c : Nat) : ps_z (ps_ap (ps_g L s) c) := ps_z_ap _ _ (fun _ _ => ps_z_e h _)
theorem ps_g_sh (L : List ps_E) (a s c : Nat) : ps_ap (fun k => ps_g L s (a + k)) c = ps_ap (ps_g L (s + a)) c :=
  ps_ap_cg _ _ c (fun k _ => by show [ps_at L (s + (a + k))] = [ps_at L (s + a + k)]; rw [Nat.add_assoc])
/-- the reference's insert: at turn i the new element goes ahead of the old one -/
def ps_fi (L : List ps_E) (i : Nat) (v : Int32) : Nat → List ps_E := fun k => (if k = i then [(v, 0)] else []) ++ (if k < L.length then [ps_at L k] else [])
theorem ps_fi_len (L : List ps_E) (i : Nat) (v : Int32) (k : Nat) : (ps_fi L i v k).length ≤ 2 := by
  unfold ps_fi
  rw [List.length_append]
  split <;> split <;> simp
theorem ps_fi_1 (L : List ps_E) (i : Nat) (v : Int32) (hi : i ≤ L.length) : ∀ c, c < L.length - i → ps_ap (fun k => ps_fi L i v (i + k)) (c + 1) = (v, 0) :: ps_ap (ps_g L i) (c + 1)
  | 0, h => by
    show [] ++ ps_fi L i v (i + 0) = (v, 0) :: ([] ++ [ps_at L (i + 0)])
    unfold ps_fi
    rw [if_pos (by omega), if_pos (by omega)]
    rfl
  | c + 1, h => by
    show ps_ap (fun k => ps_fi L i v (i + k)) (c + 1) ++ ps_fi L i v (i + (c + 1)) = (v, 0) :: (ps_ap (ps_g L i) (c + 1) ++ [ps_at L (i + (c + 1))])
    rw [ps_fi_1 L i v hi c (by omega)]
    unfold ps_fi
    rw [if_neg (by omega), if_pos (by omega)]
    rfl
theorem ps_fi_eq (L : List ps_E) (i : Nat) (v : Int32) (hi : i ≤ L.length) : ps_ap (ps_fi L i v) (L.length + 1) = ps_ap (ps_g L 0) i ++ [(v, 0)] ++ ps_ap (ps_g L i) (L.length - i) := by
  have e : L.length + 1 = i + ((L.length - i) + 1) := by omega
  have a : ps_ap (ps_fi L i v) i = ps_ap (ps_g L 0) i := ps_ap_cg _ _ i (fun k hk => by
    unfold ps_fi
    rw [if_neg (by omega), if_pos (by omega)]
    show [ps_at L k] = [ps_at L (0 + k)]
    rw [Nat.zero_add])
  have b : ps_ap (fun k => ps_fi L i v (i + k)) ((L.length - i) + 1) = (v, 0) :: ps_ap (ps_g L i) (L.length - i) := by
    cases m : L.length - i with
    | zero =>
      show [] ++ ps_fi L i v (i + 0) = (v, 0) :: []
      unfold ps_fi
      rw [if_pos (by omega), if_neg (by omega)]
      rfl
    | succ c =>
      show ps_ap (fun k => ps_fi L i v (i + k)) (c + 1) ++ ps_fi L i v (i + (c + 1)) = _
      rw [ps_fi_1 L i v hi c (by omega)]
      unfold ps_fi
      rw [if_neg (by omega), if_neg (by omega)]
      simp
  rw [e, ps_ap_sp, a, b, List.append_assoc]
  rfl
/-- the reference's some: the elements inside, or those outside -/
def ps_fs (L : List ps_E) (i j : Nat) (b : Bool) : Nat → List ps_E := fun k => if decide (i ≤ k ∧ k < j) = b then [ps_at L k] else []
theorem ps_fs_len (L : List ps_E) (i j : Nat) (b : Bool) (k : Nat) : (ps_fs L i j b k).length ≤ 1 := by
  unfold ps_fs
  split <;> simp
theorem ps_fs_y {L : List ps_E} {i j : Nat} {b : Bool} {k : Nat} (h : decide (i ≤ k ∧ k < j) = b) : ps_fs L i j b k = [ps_at L k] := if_pos h
theorem ps_fs_n {L : List ps_E} {i j : Nat} {b : Bool} {k : Nat} (h : ¬ decide (i ≤ k ∧ k < j) = b) : ps_fs L i j b k = [] := if_neg h
theorem ps_fs_3 (L : List ps_E) (i j : Nat) (b : Bool) (h1 : i ≤ j) (h2 : j ≤ L.length) : ps_ap (ps_fs L i j b) L.length = ps_ap (ps_fs L i j b) i ++ ps_ap (fun k => ps_fs L i j b (i + k)) (j - i) ++ ps_ap (fun k => ps_fs L i j b (j + k)) (L.length - j) := by
  have e : L.length = j + (L.length - j) := by omega
  have f : j = i + (j - i) := by omega
  have g : ps_ap (ps_fs L i j b) j = ps_ap (ps_fs L i j b) i ++ ps_ap (fun k => ps_fs L i j b (i + k)) (j - i) := by
    have q := ps_ap_sp (ps_fs L i j b) i (j - i)
    rw [← f] at q
    exact q
  rw [← g]
  have q := ps_ap_sp (ps_fs L i j b) j (L.length - j)
  rw [← e] at q
  exact q
theorem ps_fs_t (L : List ps_E) (i j : Nat) (h1 : i ≤ j) (h2 : j ≤ L.length) : ps_ap (ps_fs L i j true) L.length = ps_ap (ps_g L i) (j - i) := by
  rw [ps_fs_3 L i j true h1 h2]
  rw [ps_ap_nl (ps_fs L i j true) i (fun k hk => ps_fs_n (by rw [decide_eq_true_eq]; omega))]
  rw [ps_ap_nl (fun k => ps_fs L i j true (j + k)) (L.length - j) (fun k hk => ps_fs_n (by rw [decide_eq_true_eq]; omega))]
  rw [ps_ap_cg (fun k => ps_fs L i j true (i + k)) (ps_g L i) (j - i) (fun k hk => ps_fs_y (by rw [decide_eq_true_eq]; omega))]
  simp
theorem ps_fs_f (L : List ps_E) (i j : Nat) (h1 : i ≤ j) (h2 : j ≤ L.length) : ps_ap (ps_fs L i j false) L.length = ps_ap (ps_g L 0) i ++ ps_ap (ps_g L j) (L.length - j) := by
  rw [ps_fs_3 L i j false h1 h2]
  rw [ps_ap_cg (ps_fs L i j false) (ps_g L 0) i (fun k hk => by
    rw [ps_fs_y (by rw [decide_eq_false_iff_not]; omega)]
    show [ps_at L k] = [ps_at L (0 + k)]
    rw [Nat.zero_add])]
  rw [ps_ap_nl (fun k => ps_fs L i j false (i + k)) (j - i) (fun k hk => ps_fs_n (by rw [decide_eq_false_iff_not]; omega))]
  rw [ps_ap_cg (fun k => ps_fs L i j false (j + k)) (ps_g L j) (L.length - j) (fun k hk => ps_fs_y (by rw [decide_eq_false_iff_not]; omega))]
  simp
/-- turn: from the last to the first -/
abbrev ps_ft (L : List ps_E) : Nat → List ps_E := fun k => [ps_at L (L.length - 1 - k)]
/-- convert to a list: the keys, or the values -/
abbrev ps_fc (L : List ps_E) (what : Nat) : Nat → List ps_E := fun k => [(if what = 0 then (ps_at L k).1 else (ps_at L k).2, 0)]
theorem ps_fc_z (L : List ps_E) (what n : Nat) : ps_z (ps_ap (ps_fc L what) n) := ps_z_ap _ _ (fun _ _ => ps_z_1 _)
theorem ps_ap_1 (f : Nat → List ps_E) : ∀ n, (∀ k, k < n → (f k).length = 1) → (ps_ap f n).length = n
  | 0, _ => rfl
  | n + 1, h => by
    show (ps_ap f n ++ f n).length = _
    rw [List.length_append, ps_ap_1 f n (fun k hk => h k (Nat.lt_succ_of_lt hk)), h n (Nat.lt_succ_self n)]
/-- the first cell with the key, or none -/
theorem ps_get_fst (k : Int32) : ∀ (D : List ps_E) (i : Nat), i < D.length → (∀ j, j < i → ¬ (ps_at D j).1 = k) → (ps_at D i).1 = k → ps_get k D = some (ps_at D i).2
  | [], _, h, _, _ => absurd h (Nat.not_lt_zero _)
  | e :: t, 0, _, _, q => by
    rw [ps_get]
    exact if_pos q
  | e :: t, i + 1, h, f, q => by
    have f0 : ¬ e.1 = k := f 0 (Nat.zero_lt_succ _)
    rw [ps_get, if_neg f0]
    exact ps_get_fst k t i (Nat.lt_of_succ_lt_succ h) (fun j hj => f (j + 1) (Nat.succ_lt_succ hj)) q
theorem ps_get_all (k : Int32) (D : List ps_E) (h : ∀ j, j < D.length → ¬ (ps_at D j).1 = k) : ps_get k D = none :=
  ps_get_no k D (fun x hx => by
    obtain ⟨i, hi, rfl⟩ := ps_mem_at D x hx
    exact h i hi)
/-- the sum over the k below n with i ≤ k < j -/
def ps_sy (L : List ps_E) (i j : Int32) : Nat → Int64
  | 0 => 0
  | k + 1 => if i ≤ nI k ∧ nI k < j then ps_sy L i j k + (ps_at L k).1.toInt64 else ps_sy L i j k
theorem ps_sy_y {L : List ps_E} {i j : Int32} {k : Nat} (h : i ≤ nI k ∧ nI k < j) : ps_sy L i j (k + 1) = ps_sy L i j k + (ps_at L k).1.toInt64 := by
  rw [ps_sy]; exact if_pos h
theorem ps_sy_n {L : List ps_E} {i j : Int32} {k : Nat} (h : ¬ (i ≤ nI k ∧ nI k < j)) : ps_sy L i j (k + 1) = ps_sy L i j k := by
  rw [ps_sy]; exact if_neg h
theorem ps_sy_c (L : List ps_E) (i j : Int32) (c : Nat) : ∀ d, (∀ k, c ≤ k → k < c + d → ¬ (i ≤ nI k ∧ nI k < j)) → ps_sy L i j (c + d) = ps_sy L i j c
  | 0, _ => rfl
  | d + 1, h => by
    show ps_sy L i j ((c + d) + 1) = _
    rw [ps_sy_n (h (c + d) (by omega) (by omega))]
    exact ps_sy_c L i j c d (fun k h1 h2 => h k h1 (by omega))
theorem ps_sy_0 (L : List ps_E) (i j : Int32) (n : Nat) (h : ∀ k, k < n → ¬ (i ≤ nI k ∧ nI k < j)) : ps_sy L i j n = 0 := by
  have q := ps_sy_c L i j 0 n (fun k _ h2 => h k (by omega))
  rw [Nat.zero_add] at q
  exact q
/-- appending turn by turn to a list that is there -/
def ps_aq (D : List ps_E) (f : Nat → List ps_E) : Nat → List ps_E
  | 0 => D
  | k + 1 => ps_aq D f k ++ f k
theorem ps_aq_eq (D : List ps_E) (f : Nat → List ps_E) : ∀ n, ps_aq D f n = D ++ ps_ap f n
  | 0 => (List.append_nil D).symm
  | n + 1 => by
    show ps_aq D f n ++ f n = D ++ (ps_ap f n ++ f n)
    rw [ps_aq_eq D f n, List.append_assoc]
theorem ps_aq_g (D L : List ps_E) (s n : Nat) : (ps_aq D (ps_g L s) n).length = D.length + n := by
  rw [ps_aq_eq, List.length_append, ps_g_len]
theorem ps_aq_len (D : List ps_E) (f : Nat → List ps_E) (m n : Nat) (h : ∀ k, k < n → (f k).length ≤ m) : (ps_aq D f n).length ≤ D.length + n * m := by
  rw [ps_aq_eq, List.length_append]
  have := ps_ap_len f m n h
  omega
end
section
/-- cell j of the two arrays holds the pair e -/
def ps_c (x y : Nat → Int32) (j : Nat) (e : ps_E) : Prop := x j = e.1 ∧ y j = e.2
theorem ps_c_s {x y : Nat → Int32} {j : Nat} {p q : Int32} : ps_c (upd x j p) (upd y j q) j (p, q) := ⟨pk_us, pk_us⟩
theorem ps_c_n {x y : Nat → Int32} {i j : Nat} {p q : Int32} {e : ps_E} (h : i ≠ j) (g : ps_c x y i e) : ps_c (upd x j p) (upd y j q) i e := ⟨(pk_un h).trans g.1, (pk_un h).trans g.2⟩
/-- the draft of room m holds the list D -/
def ps_dr (m : Nat) (x y : Nat → Int32) (D : List ps_E) : Prop := ∀ i, i < D.length → i < m → ps_c x y i (ps_at D i)
theorem ps_dr_n {m : Nat} {x y : Nat → Int32} : ps_dr m x y [] := fun _ h _ => absurd h (Nat.not_lt_zero _)
theorem ps_len1 (D : List ps_E) (e : ps_E) : (D ++ [e]).length = D.length + 1 := by rw [List.length_append]; rfl
theorem ps_dr_a {m : Nat} {x y : Nat → Int32} {D : List ps_E} {p q : Int32} (h : ps_dr m x y D) : ps_dr m (upd x D.length p) (upd y D.length q) (D ++ [(p, q)]) := by
  intro i hi hm
  rw [ps_len1] at hi
  by_cases c : i = D.length
  · subst c
    rw [ps_at_n]
    exact ps_c_s
  · rw [ps_at_l D _ i (by omega)]
    exact ps_c_n c (h i (by omega) hm)
theorem ps_dr_o {m : Nat} {x y : Nat → Int32} {D : List ps_E} {e : ps_E} (h : ps_dr m x y D) (g : m ≤ D.length) : ps_dr m x y (D ++ [e]) := by
  intro i hi hm
  rw [ps_at_l D _ i (by omega)]
  exact h i (by omega) hm
/-- the row at b holds the list D -/
def ps_row (x y : Nat → Int32) (b : Nat) (D : List ps_E) : Prop := ∀ i, i < D.length → ps_c x y (b + i) (ps_at D i)
/-- n cells from b on are written, the others as before -/
def ps_wr (b : Nat) (x y x' y' : Nat → Int32) (D : List ps_E) (n : Nat) : Prop :=
  (∀ i, i < n → ps_c x' y' (b + i) (ps_at D i)) ∧ ∀ j, (j < b ∨ b + n ≤ j) → x' j = x j ∧ y' j = y j
theorem ps_wr_0 {b : Nat} {x y : Nat → Int32} {D : List ps_E} : ps_wr b x y x y D 0 := ⟨fun _ h => absurd h (Nat.not_lt_zero _), fun _ _ => ⟨rfl, rfl⟩⟩
theorem ps_wr_1 {b : Nat} {x y x' y' : Nat → Int32} {D : List ps_E} {n : Nat} {p q : Int32} (h : ps_wr b x y x' y' D n) (hp : p = (ps_at D n).1) (hq : q = (ps_at D n).2) : ps_wr b x y (upd x' (b + n) p) (upd y' (b + n) q) D (n + 1) := by
  constructor
  · intro i hi
    by_cases c : i = n
    · subst c
      exact ⟨pk_us.trans hp, pk_us.trans hq⟩
    · exact ps_c_n (by omega) (h.1 i (by omega))
  · intro j hj
    have g := h.2 j (by omega)
    exact ⟨(pk_un (by omega)).trans g.1, (pk_un (by omega)).trans g.2⟩
/-- all rows -/
def ps_R (w : Nat) (x y : Nat → Int32) (L : Nat → List ps_E) : Prop := ∀ p, p < 8 → ps_row x y (w * p) (L p)
def ps_up (L : Nat → List ps_E) (t : Nat) (D : List ps_E) : Nat → List ps_E := fun p => if p = t then D else L p
theorem ps_up_s {L : Nat → List ps_E} {t : Nat} {D : List ps_E} : ps_up L t D t = D := if_pos rfl
theorem ps_up_n {L : Nat → List ps_E} {t p : Nat} {D : List ps_E} (h : p ≠ t) : ps_up L t D p = L p := if_neg h
theorem ps_dj {w p t i : Nat} (hi : i < w) (h : p ≠ t) : w * p + i < w * t ∨ w * t + w ≤ w * p + i := by
  rcases Nat.lt_or_gt_of_ne h with c | c
  · have := Nat.mul_le_mul_left w (Nat.succ_le_of_lt c)
    rw [Nat.mul_succ] at this
    omega
  · have := Nat.mul_le_mul_left w (Nat.succ_le_of_lt c)
    rw [Nat.mul_succ] at this
    omega
theorem ps_R_up {w : Nat} {x y x' y' : Nat → Int32} {L : Nat → List ps_E} {t : Nat} {D : List ps_E} (h : ps_R w x y L) (hl : ∀ p, p < 8 → (L p).length ≤ w) (hD : D.length ≤ w) (g : ps_wr (w * t) x y x' y' D D.length) : ps_R w x' y' (ps_up L t D) := by
  intro p hp
  by_cases c : p = t
  · subst c
    rw [ps_up_s]
    exact g.1
  · rw [ps_up_n c]
    intro i hi
    have hw := hl p hp
    have z := g.2 (w * p + i) (by rcases ps_dj (w := w) (i := i) (by omega) c with q | q <;> omega)
    have a := h p hp i hi
    exact ⟨z.1.trans a.1, z.2.trans a.2⟩
/-- what a kind asks of its list -/
def ps_kok (kind : Int32) (D : List ps_E) : Prop := (kind = 0 ∧ D = []) ∨ (kind = 1 ∧ D.length ≤ 24 ∧ ps_srt D) ∨ (kind = 2 ∧ D.length ≤ 48 ∧ ps_z D)
theorem ps_kok_le {kind : Int32} {D : List ps_E} (h : ps_kok kind D) : D.length ≤ 48 := by
  rcases h with h | h | h
  · rw [h.2]; exact Nat.zero_le _
  · omega
  · omega
theorem ps_kok_1 {kind : Int32} {D : List ps_E} (h : ps_kok kind D) (k : kind = 1) : D.length ≤ 24 ∧ ps_srt D := by
  rcases h with h | h | h
  · rw [k] at h; exact absurd h.1 (by decide)
  · exact h.2
  · rw [k] at h; exact absurd h.1 (by decide)
theorem ps_kok_2 {kind : Int32} {D : List ps_E} (h : ps_kok kind D) (k : kind = 2) : D.length ≤ 48 ∧ ps_z D := by
  rcases h with h | h | h
  · rw [k] at h; exact absurd h.1 (by decide)
  · rw [k] at h; exact absurd h.1 (by decide)
  · exact h.2
def ps_K (kd sz : Nat → Int32) (L : Nat → List ps_E) : Prop := ∀ p, p < 8 → sz p = nI (L p).length ∧ ps_kok (kd p) (L p)
theorem ps_K_le {kd sz : Nat → Int32} {L : Nat → List ps_E} (h : ps_K kd sz L) (p : Nat) (hp : p < 8) : (L p).length ≤ 48 := ps_kok_le (h p hp).2
theorem ps_K_up {kd sz : Nat → Int32} {L : Nat → List ps_E} {t : Nat} {D : List ps_E} {kind : Int32} (h : ps_K kd sz L) (o : ps_kok kind D) : ps_K (upd kd t kind) (upd sz t (nI D.length)) (ps_up L t D) := by
  intro p hp
  by_cases c : p = t
  · subst c
    rw [ps_up_s, pk_us, pk_us]
    exact ⟨rfl, o⟩
  · rw [ps_up_n c, pk_un c, pk_un c]
    exact h p hp
/-- the two states' pictures -/
def ps_X (kd sz : Nat → Int32) (L : Nat → List ps_E) (u : SX) : Prop := ∃ ds it vl di dv, u = (ds, kd, sz, it, vl, di, dv) ∧ ps_R 48 it vl L
def ps_Y (kd sz : Nat → Int32) (L : Nat → List ps_E) (v : SY) : Prop := ∃ n a b x y, v = (n, kd, sz, a, b, x, y) ∧ ps_R 50 a b L
def i_Rel (_ : Nat) (u : SX) (v : SY) : Prop := ∃ kd sz L, ps_K kd sz L ∧ ps_X kd sz L u ∧ ps_Y kd sz L v
/-- how a making call ends -/
def ps_out {S : Type} (P : (Nat → Int32) → (Nat → Int32) → (Nat → List ps_E) → S → Prop) (kd sz : Nat → Int32) (L : Nat → List ps_E) (kind : Int32) (cap t : Nat) (D : List ps_E) (r : Int32) (s : S) : Prop :=
  (D.length ≤ cap ∧ r = nI D.length ∧ P (upd kd t kind) (upd sz t (nI D.length)) (ps_up L t D) s) ∨ (cap < D.length ∧ r = -4 ∧ P kd sz L s)
theorem ps_fin {k : Nat} {kd sz : Nat → Int32} {L : Nat → List ps_E} {kind : Int32} {cap t : Nat} {D : List ps_E} {r r' : Int32} {u : SX} {v : SY} (hK : ps_K kd sz L) (hD : D.length ≤ cap → ps_kok kind D)
    (a : ps_out ps_X kd sz L kind cap t D r u) (b : ps_out ps_Y kd sz L kind cap t D r' v) : r' = r ∧ i_Rel k u v := by
  rcases a with a | a
  · rcases b with b | b
    · exact ⟨b.2.1.trans a.2.1.symm, _, _, _, ps_K_up hK (hD a.1), a.2.2, b.2.2⟩
    · exact absurd a.1 (by omega)
  · rcases b with b | b
    · exact absurd a.1 (by omega)
    · exact ⟨b.2.1.trans a.2.1.symm, _, _, _, hK, a.2.2, b.2.2⟩
/-- shifting cells up by one, above n -/
def ps_sh (x y : Nat → Int32) (D : List ps_E) (n : Nat) : Prop := (∀ j, j < n → j < D.length → ps_c x y j (ps_at D j)) ∧ ∀ j, n < j + 1 → j < D.length → ps_c x y (j + 1) (ps_at D j)
theorem ps_sh_0 {m : Nat} {x y : Nat → Int32} {D : List ps_E} (h : ps_dr m x y D) (g : D.length ≤ m) : ps_sh x y D D.length := ⟨fun j hj _ => h j hj (by omega), fun j hj hd => absurd hd (by omega)⟩
theorem ps_sh_1 {x y : Nat → Int32} {D : List ps_E} {n : Nat} {p q : Int32} (h : ps_sh x y D (n + 1)) (hn : n < D.length) (hp : p = x n) (hq : q = y n) : ps_sh (upd x (n + 1) p) (upd y (n + 1) q) D n := by
  have a := h.1 n (Nat.lt_succ_self n) hn
  constructor
  · intro j hj hd
    exact ps_c_n (by omega) (h.1 j (by omega) hd)
  · intro j hj hd
    by_cases c : j = n
    · subst c
      exact ⟨pk_us.trans (hp.trans a.1), pk_us.trans (hq.trans a.2)⟩
    · exact ps_c_n (by omega) (h.2 j (by omega) hd)
theorem ps_at_in1 (D : List ps_E) (e : ps_E) (s j : Nat) (hs : s ≤ D.length) (h : j < s) : ps_at (D.take s ++ e :: D.drop s) j = ps_at D j := by
  rw [ps_at_l _ _ j (by rw [List.length_take]; omega), ps_at_tk D s j h]
theorem ps_at_in2 (D E : List ps_E) (e : ps_E) (s : Nat) (hs : s ≤ D.length) : ps_at (D.take s ++ e :: E) s = e := by
  have l : (D.take s).length = s := by rw [List.length_take]; omega
  have q := ps_at_r (D.take s) (e :: E) 0
  rw [l] at q
  exact q
theorem ps_at_in3 (D E : List ps_E) (e : ps_E) (s j : Nat) (hs : s ≤ D.length) : ps_at (D.take s ++ e :: E) (s + (j + 1)) = ps_at E j := by
  have l : (D.take s).length = s := by rw [List.length_take]; omega
  have q := ps_at_r (D.take s) (e :: E) (j + 1)
  rw [l] at q
  exact q
theorem ps_sh_e {m : Nat} {x y : Nat → Int32} {D : List ps_E} {s : Nat} {p q : Int32} (h : ps_sh x y D s) (hs : s ≤ D.length) : ps_dr m (upd x s p) (upd y s q) (D.take s ++ (p, q) :: D.drop s) := by
  intro i hi _
  have l : (D.take s ++ (p, q) :: D.drop s).length = D.length + 1 := by
    rw [List.length_append, List.length_take, List.length_cons, List.length_drop]; omega
  rw [l] at hi
  by_cases c : i < s
  · rw [ps_at_in1 D _ s i hs c]
    exact ps_c_n (by omega) (h.1 i c (by omega))
  · by_cases d : i = s
    · subst d
      rw [ps_at_in2 D _ _ i hs]
      exact ps_c_s
    · obtain ⟨j, rfl⟩ : ∃ j, i = s + (j + 1) := ⟨i - s - 1, by omega⟩
      rw [ps_at_in3 D _ _ s j hs, ps_at_dr]
      exact ps_c_n (by omega) (h.2 (s + j) (by omega) (by omega))
/-- one cell is written anew -/
theorem ps_dr_w {m : Nat} {x y x' y' : Nat → Int32} {D : List ps_E} {s : Nat} {e : ps_E} (h : ps_dr m x y D) (hs : s < D.length) (hc : ps_c x' y' s e) (hn : ∀ j, j ≠ s → x' j = x j ∧ y' j = y j) : ps_dr m x' y' (D.take s ++ e :: D.drop (s + 1)) := by
  intro i hi hm
  have l : (D.take s ++ e :: D.drop (s + 1)).length = D.length := by
    rw [List.length_append, List.length_take, List.length_cons, List.length_drop]; omega
  rw [l] at hi
  by_cases d : i = s
  · subst d
    rw [ps_at_in2 D _ _ i (by omega)]
    exact hc
  · have z : ps_at (D.take s ++ e :: D.drop (s + 1)) i = ps_at D i := by
      by_cases c : i < s
      · rw [ps_at_l _ _ i (by rw [List.length_take]; omega), ps_at_tk D s i c]
      · obtain ⟨j, rfl⟩ : ∃ j, i = s + (j + 1) := ⟨i - s - 1, by omega⟩
        rw [ps_at_in3 D _ _ s j (by omega), ps_at_dr]
        exact congrArg _ (by omega)
    rw [z]
    have g := hn i d
    have a := h i hi hm
    exact ⟨g.1.trans a.1, g.2.trans a.2⟩
end
section
theorem ps_10 : ¬ (1 : Int32) = 0 := by decide
theorem ps_cl {i : Nat} (h : i < 1000) : (nI i).toNatClampNeg = i := nI_clamp (by omega)
theorem ps_cl8 {p : Nat} (h : p < 8) : (nI p).toNatClampNeg = p := nI_clamp (by omega)
theorem ps_in8 {p : Nat} (h : p < 8) : vp_in (nI p) 8 := vp_in_nI h (by decide)
theorem ps_inX {p i : Nat} (hp : p < 8) (hi : i < 48) : vp_in (nI (48 * p) + nI i) 384 := by
  rw [nI_add]; exact vp_in_nI (by omega) (by decide)
theorem ps_clX {p i : Nat} (hp : p < 8) (hi : i < 48) : (nI (48 * p) + nI i).toNatClampNeg = 48 * p + i := by
  rw [nI_add]; exact nI_clamp (by omega)
theorem ps_ixY (p i : Nat) : (50 : Int32) * nI p + nI i = nI (50 * p + i) := by
  have e : (50 : Int32) * nI p = nI (50 * p) := pk_mul 50 p
  rw [e, nI_add]
theorem ps_inY {p i : Nat} (hp : p < 8) (hi : i < 50) : vp_in ((50 : Int32) * nI p + nI i) 400 := by
  rw [ps_ixY]; exact vp_in_nI (by omega) (by decide)
theorem ps_clY {p i : Nat} (hp : p < 8) (hi : i < 50) : ((50 : Int32) * nI p + nI i).toNatClampNeg = 50 * p + i := by
  rw [ps_ixY]; exact nI_clamp (by omega)

theorem ps_xP1 {post : Int32 → Prop} {u : SX} {p : Nat} (hp : p < 8) (h : post 1) : wpX_isPlace post u (nI p) := by
  obtain ⟨ds, kd, sz, it, vl, di, dv⟩ := u
  exact br_f (nI_pos (by omega)) (br_f (nI_ge (b := 8) hp (by decide)) h)
theorem ps_xP0 {post : Int32 → Prop} {u : SX} {x : Int32} (hx : ¬ ∃ p, p < 8 ∧ x = nI p) (h : post 0) : wpX_isPlace post u x := by
  obtain ⟨ds, kd, sz, it, vl, di, dv⟩ := u
  by_cases c : x < 0
  · exact br_t c h
  · obtain ⟨j, hj, rfl⟩ := nI_of c
    have q : ¬ j < 8 := fun q => hx ⟨j, q, rfl⟩
    exact br_f c (br_t (nI_le (a := 8) (by omega) hj) h)
theorem ps_xR {post : Int32 → Prop} {u : SX} {p : Nat} (h : post (nI (48 * p))) : wpX_rowOf post u (nI p) := by
  obtain ⟨ds, kd, sz, it, vl, di, dv⟩ := u
  have e : nI p * 48 = nI (48 * p) := by rw [Nat.mul_comm 48 p]; exact pk_mul p 48
  show post (nI p * 48)
  rw [e]; exact h
section
variable {kd sz it vl di dv : Nat → Int32} {ds : Int32} {D : List ps_E}
theorem ps_xS {post : SX → Prop} (h : post (nI ([] : List ps_E).length, kd, sz, it, vl, di, dv)) : wpX_startDraft post (ds, kd, sz, it, vl, di, dv) := h
theorem ps_xD {post : SX → Prop} {i v : Int32} (hd : ps_dr 48 di dv D) (hl : D.length < 1000)
    (h : ∀ di' dv', ps_dr 48 di' dv' (D ++ [(i, v)]) → post (nI (D ++ [(i, v)]).length, kd, sz, it, vl, di', dv')) : wpX_draft post (nI D.length, kd, sz, it, vl, di, dv) i v := by
  have e : nI D.length + 1 = nI (D ++ [(i, v)]).length := by rw [ps_len1]; exact nI_1 _
  refine pk_le 48 D.length (fun c => nm_r e (h _ _ (ps_dr_o hd c))) (fun c => ?_)
  refine ⟨pk_in D.length 48 c, fun y ey => ⟨pk_in D.length 48 c, fun z ez => nm_r e ?_⟩⟩
  rw [ps_cl hl] at ey ez
  subst ey ez
  exact h _ _ (ps_dr_a hd)
theorem ps_xRl {post : SX → Prop} {p s m : Nat} {L : List ps_E} (hp : p < 8) (hr : ps_row it vl (48 * p) L) (hm : s + m ≤ L.length) (hL : L.length ≤ 48) (hD : D.length + m < 1000)
    (h : ∀ di' dv', ps_dr 48 di' dv' (ps_aq D (ps_g L s) m) → post (nI (ps_aq D (ps_g L s) m).length, kd, sz, it, vl, di', dv')) :
    ∀ (c k : Nat), k + c = m → ∀ di dv, ps_dr 48 di dv (ps_aq D (ps_g L s) k) → wX_draftRange_10 post (nI (s + m)) (nI (48 * p)) (c + 1) (nI (s + k)) (nI (ps_aq D (ps_g L s) k).length) kd sz it vl di dv := by
  intro c
  induction c with
  | zero =>
    intro k e di dv hd
    have q : k = m := by omega
    subst q
    exact br_t (nI_le (by omega) (by omega)) (h _ _ hd)
  | succ c ih =>
    intro k e di dv hd
    have l := ps_aq_g D L s k
    have i1 : s + k < 48 := by omega
    have r := hr (s + k) (by omega)
    refine br_f (nI_ge (by omega) (by omega)) ⟨ps_inX hp i1, ps_inX hp i1, ?_⟩
    rw [ps_clX hp i1, r.1, r.2]
    exact ps_xD hd (by omega) (fun di' dv' hd' => nm_r (nI_1 _) (ih (k + 1) (by omega) di' dv' hd'))
theorem ps_xG {post : SX → Prop} {p s e : Nat} {L : List ps_E} (m : Nat) (hp : p < 8) (hr : ps_row it vl (48 * p) L) (hm : s + m = e) (he : e ≤ L.length) (hL : L.length ≤ 48) (hD : D.length + m < 1000) (hd : ps_dr 48 di dv D)
    (h : ∀ di' dv', ps_dr 48 di' dv' (ps_aq D (ps_g L s) m) → post (nI (ps_aq D (ps_g L s) m).length, kd, sz, it, vl, di', dv')) :
    wpX_draftRange post (nI D.length, kd, sz, it, vl, di, dv) (nI p) (nI s) (nI e) := by
  subst hm
  unfold wpX_draftRange
  exact ps_xR ⟨m + 1, ps_xRl hp hr he hL hD h m 0 (Nat.zero_add m) di dv hd⟩
theorem ps_xSl {post : Int32 → SX → Prop} {t : Nat} {kind : Int32} {it0 vl0 : Nat → Int32} (ht : t < 8) (hD : D.length ≤ 48) (hd : ps_dr 48 di dv D)
    (h : ∀ it' vl', ps_wr (48 * t) it0 vl0 it' vl' D D.length → post (nI D.length) (ds, upd kd t kind, upd sz t (nI D.length), it', vl', di, dv)) :
    ∀ (c k : Nat), k + c = D.length → ∀ it vl, ps_wr (48 * t) it0 vl0 it vl D k → wX_shelve_34 post kind (nI t) (nI D.length) (nI (48 * t)) ds (c + 1) (nI k) kd sz it vl di dv := by
  intro c
  induction c with
  | zero =>
    intro k e it vl hw
    have q : k = D.length := by omega
    subst q
    refine br_t (nI_le (by omega) (by omega)) ⟨ps_in8 ht, fun y ey => ⟨ps_in8 ht, fun z ez => ?_⟩⟩
    rw [ps_cl8 ht] at ey ez
    subst ey ez
    exact h _ _ hw
  | succ c ih =>
    intro k e it vl hw
    have i1 : k < 48 := by omega
    have g := hd k (by omega) i1
    refine br_f (nI_ge (by omega) (by omega)) ⟨pk_in k 48 i1, ps_inX ht i1, fun y ey => ⟨pk_in k 48 i1, ps_inX ht i1, fun z ez => nm_r (nI_1 k) ?_⟩⟩
    rw [ps_clX ht i1, ps_cl (by omega)] at ey ez
    subst ey ez
    exact ih (k + 1) (by omega) _ _ (ps_wr_1 hw g.1 g.2)
theorem ps_xV {post : Int32 → SX → Prop} {kind : Int32} {cap t : Nat} {L : Nat → List ps_E} (hc : (kind = 1 ∧ cap = 24) ∨ (¬ kind = 1 ∧ cap = 48)) (ht : t < 8) (hR : ps_R 48 it vl L) (hl : ∀ p, p < 8 → (L p).length ≤ 48) (hd : ps_dr 48 di dv D) (hD : D.length < 1000)
    (h : ∀ r u', ps_out ps_X kd sz L kind cap t D r u' → post r u') : wpX_shelve post (nI D.length, kd, sz, it, vl, di, dv) kind (nI t) := by
  have hcap : cap ≤ 48 := by omega
  have g : wX_shelve_18 post kind (nI t) (nI D.length) (nI cap) (nI D.length) (nI D.length) kd sz it vl di dv := by
    unfold wX_shelve_18
    refine pk_le D.length cap (fun c => ?_) (fun c => ?_)
    · exact ps_xR ⟨D.length + 1, ps_xSl ht (by omega) hd (fun it' vl' hw => h _ _ (Or.inl ⟨c, rfl, _, _, _, _, _, rfl, ps_R_up hR hl (by omega) hw⟩)) D.length 0 (Nat.zero_add _) it vl ps_wr_0⟩
    · exact h _ _ (Or.inr ⟨c, rfl, _, _, _, _, _, rfl, hR⟩)
  rcases hc with ⟨a, rfl⟩ | ⟨a, rfl⟩
  · exact br_t a g
  · exact br_f a g
/-- the same, where the method hands the state on -/
theorem ps_xW {post : Int32 → SX → Prop} {kind : Int32} {cap t : Nat} {L : Nat → List ps_E} (hc : (kind = 1 ∧ cap = 24) ∨ (¬ kind = 1 ∧ cap = 48)) (ht : t < 8) (hR : ps_R 48 it vl L) (hl : ∀ p, p < 8 → (L p).length ≤ 48) (hd : ps_dr 48 di dv D) (hD : D.length < 1000)
    (h : ∀ r u', ps_out ps_X kd sz L kind cap t D r u' → post r u') : wpX_shelve (fun r u => match u with | (a, b, c, d, e, f, g) => post r (a, b, c, d, e, f, g)) (nI D.length, kd, sz, it, vl, di, dv) kind (nI t) :=
  ps_xV hc ht hR hl hd hD (fun r u' o => by obtain ⟨_, _, _, _, _, _, _⟩ := u'; exact h _ _ o)
theorem ps_xKl {post : Int32 → Prop} {p : Nat} {L : List ps_E} {k : Int32} (hp : p < 8) (hr : ps_row it vl (48 * p) L) (hL : L.length ≤ 48) (h : post (nI (ps_kb k L))) :
    ∀ (c s : Nat), s + c = L.length → (∀ i, i < s → (ps_at L i).1 < k) → wX_keysBelow__items_3 post (nI (48 * p)) (nI L.length) k ds kd sz it vl di dv (c + 1) (nI s) := by
  intro c
  induction c with
  | zero =>
    intro s e hi
    have z : ps_kb k L = s := ps_kb_un k L s (by omega) hi (fun q => absurd q (by omega))
    rw [z] at h
    exact br_t (nI_le (by omega) (by omega)) h
  | succ c ih =>
    intro s e hi
    have i1 : s < 48 := by omega
    have r := hr s (by omega)
    refine br_f (nI_ge (by omega) (by omega)) ⟨ps_inX hp i1, ?_⟩
    rw [ps_clX hp i1, r.1]
    by_cases q : k ≤ (ps_at L s).1
    · have z : ps_kb k L = s := ps_kb_un k L s (by omega) hi (fun _ => Int32.not_lt.mpr q)
      rw [z] at h
      exact br_t q h
    · refine br_f q (nm_r (nI_1 s) (ih (s + 1) (by omega) (fun i hi' => ?_)))
      by_cases w : i = s
      · rw [w]; exact Int32.not_le.mp q
      · exact hi i (by omega)
theorem ps_xK {post : Int32 → Prop} {p : Nat} {L : List ps_E} {k : Int32} (hp : p < 8) (hr : ps_row it vl (48 * p) L) (hL : L.length ≤ 48) (h : post (nI (ps_kb k L))) :
    wpX_keysBelow__items post (ds, kd, sz, it, vl, di, dv) (nI (48 * p)) (nI L.length) k :=
  ⟨L.length + 1, ps_xKl hp hr hL h L.length 0 (Nat.zero_add _) (fun i hi => absurd hi (Nat.not_lt_zero i))⟩
theorem ps_xJl {post : Int32 → Prop} {k : Int32} (hd : ps_dr 48 di dv D) (hD : D.length ≤ 48) (h : post (nI (ps_kb k D))) :
    ∀ (c s : Nat), s + c = D.length → (∀ i, i < s → (ps_at D i).1 < k) → wX_keysBelow__draftItems_3 post 0 (nI D.length) k ds kd sz it vl di dv (c + 1) (nI s) := by
  intro c
  induction c with
  | zero =>
    intro s e hi
    have z : ps_kb k D = s := ps_kb_un k D s (by omega) hi (fun q => absurd q (by omega))
    rw [z] at h
    exact br_t (nI_le (by omega) (by omega)) h
  | succ c ih =>
    intro s e hi
    have i1 : s < 48 := by omega
    have r := hd s (by omega) i1
    have z0 : (0 : Int32) + nI s = nI s := Int32.zero_add _
    refine br_f (nI_ge (by omega) (by omega)) ?_
    rw [z0, ps_cl (by omega), r.1]
    refine ⟨pk_in s 48 i1, ?_⟩
    by_cases q : k ≤ (ps_at D s).1
    · have z : ps_kb k D = s := ps_kb_un k D s (by omega) hi (fun _ => Int32.not_lt.mpr q)
      rw [z] at h
      exact br_t q h
    · refine br_f q (nm_r (nI_1 s) (ih (s + 1) (by omega) (fun i hi' => ?_)))
      by_cases w : i = s
      · rw [w]; exact Int32.not_le.mp q
      · exact hi i (by omega)
theorem ps_xJ {post : Int32 → Prop} {k : Int32} (hd : ps_dr 48 di dv D) (hD : D.length ≤ 48) (h : post (nI (ps_kb k D))) :
    wpX_keysBelow__draftItems post (ds, kd, sz, it, vl, di, dv) 0 (nI D.length) k :=
  ⟨D.length + 1, ps_xJl hd hD h D.length 0 (Nat.zero_add _) (fun i hi => absurd hi (Nat.not_lt_zero i))⟩
theorem ps_xH {post : Int32 → Prop} {p : Nat} {L : List ps_E} {k : Int32} (hp : p < 8) (hs : sz p = nI L.length) (hr : ps_row it vl (48 * p) L) (hL : L.length ≤ 48) (hy : ps_hit k L → post 1) (hn : ¬ ps_hit k L → post 0) :
    wpX_hasKeyAt post (ds, kd, sz, it, vl, di, dv) (nI p) (nI (ps_kb k L)) k := by
  have b := ps_kb_le k L
  refine ⟨ps_in8 hp, ?_⟩
  rw [ps_cl8 hp, hs]
  refine pk_le L.length (ps_kb k L) (fun c => hn (fun q => absurd q.1 (by omega))) (fun c => ?_)
  refine ps_xR ⟨ps_inX hp (by omega), ?_⟩
  rw [ps_clX hp (by omega), (hr _ c).1]
  exact br_c (fun q => hy ⟨c, q⟩) (fun q => hn (fun z => q z.2))
theorem ps_xO {post : Int32 → Prop} {p : Nat} {kind : Int32} (hp : p < 8) (hy : kd p = kind → post 1) (hn : ¬ kd p = kind → post 0) :
    wpX_holds post (ds, kd, sz, it, vl, di, dv) (nI p) kind := by
  unfold wpX_holds
  refine ps_xP1 hp (br_f ps_10 ⟨ps_in8 hp, ?_⟩)
  rw [ps_cl8 hp]
  exact br_c hy hn
theorem ps_xO0 {post : Int32 → Prop} {x kind : Int32} (hx : ¬ ∃ p, p < 8 ∧ x = nI p) (h : post 0) :
    wpX_holds post (ds, kd, sz, it, vl, di, dv) x kind := by
  unfold wpX_holds
  exact ps_xP0 hx (br_t rfl h)
end
end
section
theorem ps_yP1 {post : Int32 → Prop} {p : Nat} (hp : p < 8) (h : post 1) : wpY_place post (nI p) :=
  br_f (nI_pos (by omega)) (br_f (nI_ge (b := 8) hp (by decide)) h)
theorem ps_yP0 {post : Int32 → Prop} {x : Int32} (hx : ¬ ∃ p, p < 8 ∧ x = nI p) (h : post 0) : wpY_place post x := by
  by_cases c : x < 0
  · exact br_t c h
  · obtain ⟨j, hj, rfl⟩ := nI_of c
    have q : ¬ j < 8 := fun q => hx ⟨j, q, rfl⟩
    exact br_f c (br_t (nI_le (a := 8) (by omega) hj) h)
section
variable {kd sz a b x y : Nat → Int32} {n : Int32} {D : List ps_E}
theorem ps_yO {post : Int32 → Prop} {p : Nat} {kind : Int32} (hp : p < 8) (hy : kd p = kind → post 1) (hn : ¬ kd p = kind → post 0) :
    wpY_holds post (n, kd, sz, a, b, x, y) (nI p) kind := by
  unfold wpY_holds
  refine ps_yP1 hp (br_f ps_10 ⟨ps_in8 hp, ?_⟩)
  rw [ps_cl8 hp]
  exact br_c hy hn
theorem ps_yO0 {post : Int32 → Prop} {z kind : Int32} (hx : ¬ ∃ p, p < 8 ∧ z = nI p) (h : post 0) :
    wpY_holds post (n, kd, sz, a, b, x, y) z kind := by
  unfold wpY_holds
  exact ps_yP0 hx (br_t rfl h)
theorem ps_yKl {post : Int32 → SY → Prop} {t : Nat} {a0 b0 : Nat → Int32} (ht : t < 8) (hD : D.length ≤ 48) (hd : ps_dr 100 x y D)
    (h : ∀ a' b', ps_wr (50 * t) a0 b0 a' b' D D.length → post (nI D.length) (nI D.length, kd, sz, a', b', x, y)) :
    ∀ (c k : Nat), k + c = D.length → ∀ a b, ps_wr (50 * t) a0 b0 a b D k → wY_keep_41 post (nI t) (nI D.length) (c + 1) (nI k) kd sz a b x y := by
  intro c
  induction c with
  | zero =>
    intro k e a b hw
    have q : k = D.length := by omega
    subst q
    exact br_t (nI_le (by omega) (by omega)) (h _ _ hw)
  | succ c ih =>
    intro k e a b hw
    have i1 : k < 50 := by omega
    have g := hd k (by omega) (by omega)
    refine br_f (nI_ge (by omega) (by omega)) ⟨pk_in k 100 (by omega), ps_inY ht i1, fun y' ey => ⟨pk_in k 100 (by omega), ps_inY ht i1, fun z ez => nm_r (nI_1 k) ?_⟩⟩
    rw [ps_clY ht i1, ps_cl (by omega)] at ey ez
    subst ey ez
    exact ih (k + 1) (by omega) _ _ (ps_wr_1 hw g.1 g.2)
theorem ps_yV {post : Int32 → SY → Prop} {kind : Int32} {cap t : Nat} {L : Nat → List ps_E} (hc : (kind = 1 ∧ cap = 24) ∨ (¬ kind = 1 ∧ cap = 48)) (ht : t < 8) (hR : ps_R 50 a b L) (hl : ∀ p, p < 8 → (L p).length ≤ 48) (hd : ps_dr 100 x y D) (hD : D.length < 1000)
    (h : ∀ r u', ps_out ps_Y kd sz L kind cap t D r u' → post r u') : wpY_keep post (nI D.length, kd, sz, a, b, x, y) kind (nI t) := by
  have hcap : cap ≤ 48 := by omega
  have g : wY_keep_16 post kind (nI t) (nI cap) (nI D.length) (nI D.length) kd sz a b x y := by
    unfold wY_keep_16
    refine pk_le D.length cap (fun c => ?_) (fun c => ?_)
    · refine ⟨ps_in8 ht, fun y' ey => ⟨ps_in8 ht, fun z ez => ?_⟩⟩
      rw [ps_cl8 ht] at ey ez
      subst ey ez
      exact ⟨D.length + 1, ps_yKl ht (by omega) hd (fun a' b' hw => h _ _ (Or.inl ⟨c, rfl, _, _, _, _, _, rfl, ps_R_up hR (fun p hp => Nat.le_trans (hl p hp) (by decide)) (by omega) hw⟩)) D.length 0 (Nat.zero_add _) a b ps_wr_0⟩
    · exact h _ _ (Or.inr ⟨c, rfl, _, _, _, _, _, rfl, hR⟩)
  rcases hc with ⟨q, rfl⟩ | ⟨q, rfl⟩
  · exact br_t q g
  · exact br_f q g
/-- the same, where the method hands the state on -/
theorem ps_yW {post : Int32 → SY → Prop} {kind : Int32} {cap t : Nat} {L : Nat → List ps_E} (hc : (kind = 1 ∧ cap = 24) ∨ (¬ kind = 1 ∧ cap = 48)) (ht : t < 8) (hR : ps_R 50 a b L) (hl : ∀ p, p < 8 → (L p).length ≤ 48) (hd : ps_dr 100 x y D) (hD : D.length < 1000)
    (h : ∀ r u', ps_out ps_Y kd sz L kind cap t D r u' → post r u') : wpY_keep (fun r u => match u with | (a, b, c, d, e, f, g) => post r (a, b, c, d, e, f, g)) (nI D.length, kd, sz, a, b, x, y) kind (nI t) :=
  ps_yV hc ht hR hl hd hD (fun r u' o => by obtain ⟨_, _, _, _, _, _, _⟩ := u'; exact h _ _ o)
theorem ps_yA {post : SY → Prop} {v : Int32} (hd : ps_dr 100 x y D) (hl : D.length < 100)
    (h : ∀ x' y', ps_dr 100 x' y' (D ++ [(v, 0)]) → post (nI (D ++ [(v, 0)]).length, kd, sz, a, b, x', y')) : wpY_add post (nI D.length, kd, sz, a, b, x, y) v := by
  have e : nI D.length + 1 = nI (D ++ [(v, (0 : Int32))]).length := by rw [ps_len1]; exact nI_1 _
  refine ⟨pk_in D.length 100 hl, fun y' ey => ⟨pk_in D.length 100 hl, fun z ez => nm_r e ?_⟩⟩
  rw [ps_cl (by omega)] at ey ez
  subst ey ez
  exact h _ _ (ps_dr_a hd)
theorem ps_yHl {post : SY → Prop} {s : Nat} {k v : Int32} (hs : s ≤ D.length) (hD : D.length < 99)
    (h : ∀ x' y', ps_dr 100 x' y' (D.take s ++ (k, v) :: D.drop s) → post (nI (D.length + 1), kd, sz, a, b, x', y')) :
    ∀ c, s + c ≤ D.length → ∀ x y, ps_sh x y D (s + c) → wY_set_50 post k v (nI s) (nI D.length) (c + 1) (nI (s + c)) kd sz a b x y := by
  intro c
  induction c with
  | zero =>
    intro e x y hh
    refine br_t (nI_le (by omega) (by omega)) (nm_r (nI_1 _) ?_)
    refine ⟨pk_in s 100 (by omega), fun y' ey => ⟨pk_in s 100 (by omega), fun z ez => ?_⟩⟩
    rw [ps_cl (by omega)] at ey ez
    subst ey ez
    exact h _ _ (ps_sh_e hh hs)
  | succ c ih =>
    intro e x y hh
    have z : nI (s + (c + 1)) - 1 = nI (s + c) := nI_pred (s + c)
    have z2 : nI (s + (c + 1)) + (-1) = nI (s + c) := pk_m1 (s + c)
    refine br_f (nI_ge (by omega) (by omega)) ?_
    rw [z, ps_cl (i := s + c) (by omega), ps_cl (i := s + (c + 1)) (by omega)]
    refine ⟨pk_in (s + c) 100 (by omega), pk_in (s + (c + 1)) 100 (by omega), fun y' ey => ⟨pk_in (s + c) 100 (by omega), pk_in (s + (c + 1)) 100 (by omega), fun z' ez => nm_r z2 ?_⟩⟩
    subst ey ez
    exact ih (by omega) _ _ (ps_sh_1 (n := s + c) hh (by omega) rfl rfl)
theorem ps_yZ {post : SY → Prop} {k v : Int32} (hd : ps_dr 100 x y D) (hD : D.length < 99)
    (h : ∀ x' y', ps_dr 100 x' y' (ps_ins k v D) → post (nI (ps_ins k v D).length, kd, sz, a, b, x', y')) :
    wY_set_26 post k v (nI (ps_kb k D)) (nI D.length) kd sz a b x y := by
  have l := ps_kb_le k D
  have no : ¬ ps_hit k D → ∃ n50 : Nat, wY_set_50 post k v (nI (ps_kb k D)) (nI D.length) n50 (nI D.length) kd sz a b x y := fun q => by
    have e := ps_ins_n k v D q
    have el : (ps_ins k v D).length = D.length + 1 := by
      rw [e, List.length_append, List.length_take, List.length_cons, List.length_drop]; omega
    rw [el, e] at h
    have w := ps_yHl (post := post) (kd := kd) (sz := sz) (a := a) (b := b) (k := k) (v := v) l hD h (D.length - ps_kb k D) (by omega) x y
    rw [show ps_kb k D + (D.length - ps_kb k D) = D.length by omega] at w
    exact ⟨_, w (ps_sh_0 hd (by omega))⟩
  refine pk_eq (ps_kb k D) D.length (fun c => no (fun q => absurd q.1 (by omega))) (fun c => ?_)
  have i1 : ps_kb k D < D.length := by omega
  have g := hd _ i1 (by omega)
  refine ⟨pk_in (ps_kb k D) 100 (by omega), ?_⟩
  rw [ps_cl (i := ps_kb k D) (by omega), g.1]
  refine br_c (fun q => ?_) (fun q => no (fun w => q w.2))
  have e := ps_ins_y k v D ⟨i1, q⟩
  have el : (ps_ins k v D).length = D.length := by
    rw [e, List.length_append, List.length_take, List.length_cons, List.length_drop]; omega
  rw [el, e] at h
  refine ⟨pk_in (ps_kb k D) 100 (by omega), fun y' ey => ⟨pk_in (ps_kb k D) 100 (by omega), fun z ez => ?_⟩⟩
  rw [ps_cl (by omega)] at ey ez
  subst ey ez
  exact h _ _ (ps_dr_w hd i1 ps_c_s (fun j hj => ⟨pk_un hj, pk_un hj⟩))
theorem ps_ySl {post : SY → Prop} {k v : Int32} (hd : ps_dr 100 x y D) (hD : D.length < 99) (h : wY_set_26 post k v (nI (ps_kb k D)) (nI D.length) kd sz a b x y) :
    ∀ (c s : Nat), s + c = D.length → (∀ i, i < s → (ps_at D i).1 < k) → wY_set_2 post k v (nI D.length) kd sz a b x y (c + 1) (nI s) := by
  intro c
  induction c with
  | zero =>
    intro s e hi
    have z : ps_kb k D = s := ps_kb_un k D s (by omega) hi (fun q => absurd q (by omega))
    rw [z] at h
    exact br_t (nI_le (by omega) (by omega)) h
  | succ c ih =>
    intro s e hi
    have r := hd s (by omega) (by omega)
    refine br_f (nI_ge (by omega) (by omega)) ⟨pk_in s 100 (by omega), ?_⟩
    rw [ps_cl (i := s) (by omega), r.1]
    by_cases q : k ≤ (ps_at D s).1
    · have z : ps_kb k D = s := ps_kb_un k D s (by omega) hi (fun _ => Int32.not_lt.mpr q)
      rw [z] at h
      exact br_t q h
    · refine br_f q (nm_r (nI_1 s) (ih (s + 1) (by omega) (fun i hi' => ?_)))
      by_cases w : i = s
      · rw [w]; exact Int32.not_le.mp q
      · exact hi i (by omega)
theorem ps_yS {post : SY → Prop} {k v : Int32} (hd : ps_dr 100 x y D) (hD : D.length < 99)
    (h : ∀ x' y', ps_dr 100 x' y' (ps_ins k v D) → post (nI (ps_ins k v D).length, kd, sz, a, b, x', y')) : wpY_set post (nI D.length, kd, sz, a, b, x, y) k v :=
  ⟨D.length + 1, ps_ySl hd hD (ps_yZ hd hD h) D.length 0 (Nat.zero_add _) (fun i hi => absurd hi (Nat.not_lt_zero i))⟩
theorem ps_yFl {post : Int32 → Prop} {p : Nat} {L : List ps_E} {k : Int32} (hp : p < 8) (hs : sz p = nI L.length) (hr : ps_row a b (50 * p) L) (hL : L.length ≤ 48)
    (hy : ∀ i, i < L.length → ps_get k L = some (ps_at L i).2 → post (nI i)) (hn : ps_get k L = none → post (-1)) :
    ∀ (c s : Nat), s + c = L.length → (∀ i, i < s → ¬ (ps_at L i).1 = k) → wY_find_2 post (nI p) k n kd sz a b x y (c + 1) (nI s) := by
  intro c
  induction c with
  | zero =>
    intro s e hi
    refine ⟨ps_in8 hp, ?_⟩
    rw [ps_cl8 hp, hs]
    exact br_t (nI_le (by omega) (by omega)) (hn (ps_get_all k L (fun j hj => hi j (by omega))))
  | succ c ih =>
    intro s e hi
    have i1 : s < 50 := by omega
    have r := hr s (by omega)
    refine ⟨ps_in8 hp, ?_⟩
    rw [ps_cl8 hp, hs]
    refine br_f (nI_ge (by omega) (by omega)) ⟨ps_inY hp i1, ?_⟩
    rw [ps_clY hp i1, r.1]
    refine br_c (fun q => hy s (by omega) (ps_get_fst k L s (by omega) hi q)) (fun q => nm_r (nI_1 s) (ih (s + 1) (by omega) (fun i hi' => ?_)))
    by_cases w : i = s
    · rw [w]; exact q
    · exact hi i (by omega)
theorem ps_yF {post : Int32 → Prop} {p : Nat} {L : List ps_E} {k : Int32} (hp : p < 8) (hs : sz p = nI L.length) (hr : ps_row a b (50 * p) L) (hL : L.length ≤ 48)
    (hy : ∀ i, i < L.length → ps_get k L = some (ps_at L i).2 → post (nI i)) (hn : ps_get k L = none → post (-1)) : wpY_find post (n, kd, sz, a, b, x, y) (nI p) k :=
  ⟨L.length + 1, ps_yFl hp hs hr hL hy hn L.length 0 (Nat.zero_add _) (fun i hi => absurd hi (Nat.not_lt_zero i))⟩
theorem ps_yTl {post : SY → Prop} {p : Nat} {L : List ps_E} (hp : p < 8) (hs : sz p = nI L.length) (hr : ps_row a b (50 * p) L) (hL : L.length ≤ 48)
    (h : ∀ x' y', ps_dr 100 x' y' L → post (nI L.length, kd, sz, a, b, x', y')) :
    ∀ (c s : Nat), s + c = L.length → ∀ x y, (∀ i, i < s → ps_c x y i (ps_at L i)) → wY_take_7 post (nI p) 0 (c + 1) (nI s) kd sz a b x y := by
  intro c
  induction c with
  | zero =>
    intro s e x y hi
    refine ⟨ps_in8 hp, ?_⟩
    rw [ps_cl8 hp, hs]
    exact br_t (nI_le (by omega) (by omega)) ⟨ps_in8 hp, nm_e (h _ _ (fun i hd _ => hi i (by omega)))⟩
  | succ c ih =>
    intro s e x y hi
    have i1 : s < 50 := by omega
    have r := hr s (by omega)
    refine ⟨ps_in8 hp, ?_⟩
    rw [ps_cl8 hp, hs]
    refine br_f (nI_ge (by omega) (by omega)) ⟨ps_inY hp i1, pk_in s 100 (by omega), fun y' ey => ⟨ps_inY hp i1, pk_in s 100 (by omega), fun z ez => nm_r (nI_1 s) ?_⟩⟩
    rw [ps_clY hp i1, ps_cl (i := s) (by omega)] at ey ez
    subst ey ez
    refine ih (s + 1) (by omega) _ _ (fun i hi' => ?_)
    by_cases w : i = s
    · subst w
      exact ⟨pk_us.trans r.1, pk_us.trans r.2⟩
    · exact ps_c_n w (hi i (by omega))
theorem ps_yT {post : SY → Prop} {p : Nat} {L : List ps_E} (hp : p < 8) (hs : sz p = nI L.length) (hr : ps_row a b (50 * p) L) (hL : L.length ≤ 48)
    (h : ∀ x' y', ps_dr 100 x' y' L → post (nI L.length, kd, sz, a, b, x', y')) : wpY_take post (n, kd, sz, a, b, x, y) (nI p) :=
  ⟨L.length + 1, ps_yTl hp hs hr hL h L.length 0 (Nat.zero_add _) x y (fun i hi => absurd hi (Nat.not_lt_zero i))⟩
end
end
section
theorem ps_hc (kind : Int32) : (kind = 1 ∧ (if kind = 1 then (24 : Nat) else 48) = 24) ∨ (¬ kind = 1 ∧ (if kind = 1 then (24 : Nat) else 48) = 48) := by
  by_cases h : kind = 1
  · exact Or.inl ⟨h, if_pos h⟩
  · exact Or.inr ⟨h, if_neg h⟩
theorem ps_put_y {k v : Int32} {L : List ps_E} (h : ps_hit k L) : ps_aq (ps_aq [] (ps_g L 0) (ps_kb k L) ++ [(k, v)]) (ps_g L (ps_kb k L + 1)) (L.length - (ps_kb k L + 1)) = ps_ins k v L := by
  have l := h.1
  rw [ps_aq_eq, ps_aq_eq, List.nil_append, ps_g_0 _ _ (by omega), ps_g_end _ _ (by omega), ps_ins_y k v L h, List.append_assoc]
  rfl
theorem ps_put_n {k v : Int32} {L : List ps_E} (h : ¬ ps_hit k L) : ps_aq (ps_aq [] (ps_g L 0) (ps_kb k L) ++ [(k, v)]) (ps_g L (ps_kb k L)) (L.length - ps_kb k L) = ps_ins k v L := by
  have l := ps_kb_le k L
  rw [ps_aq_eq, ps_aq_eq, List.nil_append, ps_g_0 _ _ (by omega), ps_g_end _ _ (by omega), ps_ins_n k v L h, List.append_assoc]
  rfl
theorem ps_rem_y {k : Int32} {L : List ps_E} (h : ps_hit k L) : ps_aq (ps_aq [] (ps_g L 0) (ps_kb k L)) (ps_g L (ps_kb k L + 1)) (L.length - (ps_kb k L + 1)) = ps_rm k L := by
  have l := h.1
  rw [ps_aq_eq, ps_aq_eq, List.nil_append, ps_g_0 _ _ (by omega), ps_g_end _ _ (by omega), ps_rm_y k L h]
theorem ps_rem_n {k : Int32} {L : List ps_E} (h : ¬ ps_hit k L) : ps_aq (ps_aq [] (ps_g L 0) (ps_kb k L)) (ps_g L (ps_kb k L)) (L.length - ps_kb k L) = ps_rm k L := by
  have l := ps_kb_le k L
  rw [ps_aq_eq, ps_aq_eq, List.nil_append, ps_g_0 _ _ (by omega), ps_g_end _ _ (by omega), ps_rm_n k L h]
theorem ps_ft_1 (L : List ps_E) (c : Nat) (h : c < L.length) : ps_aq [] (ps_ft L) (L.length - (c + 1)) ++ [ps_at L c] = ps_aq [] (ps_ft L) (L.length - c) := by
  have e : L.length - c = (L.length - (c + 1)) + 1 := by omega
  have q : L.length - 1 - (L.length - (c + 1)) = c := by omega
  rw [e]
  show _ = ps_aq [] (ps_ft L) (L.length - (c + 1)) ++ [ps_at L (L.length - 1 - (L.length - (c + 1)))]
  rw [q]
section
variable {kd sz it vl di dv : Nat → Int32} {ds : Int32} {L : Nat → List ps_E} {f t : Nat} {post : Int32 → SX → Prop}
theorem ps_xmake {kind : Int32} (hK : ps_K kd sz L) (hR : ps_R 48 it vl L) (ht : t < 8) (h0 : ¬ kind < 0) (h2 : kind ≤ 2)
    (h : ∀ r u', ps_out ps_X kd sz L kind (if kind = 1 then 24 else 48) t [] r u' → post r u') : wpX_make post (ds, kd, sz, it, vl, di, dv) (nI t) kind := by
  unfold wpX_make
  refine ps_xP1 ht (br_f ps_10 (br_f h0 (br_t h2 (ps_xS ?_))))
  exact ps_xV (D := []) (ps_hc kind) ht hR (ps_K_le hK) ps_dr_n (by decide) (fun r u' o => by obtain ⟨_, _, _, _, _, _, _⟩ := u'; exact h _ _ o)
theorem ps_xcopy (hK : ps_K kd sz L) (hR : ps_R 48 it vl L) (hf : f < 8) (ht : t < 8) (h0 : ¬ kd f = 0)
    (h : ∀ r u', ps_out ps_X kd sz L (kd f) (if kd f = 1 then 24 else 48) t (L f) r u' → post r u') : wpX_copy post (ds, kd, sz, it, vl, di, dv) (nI f) (nI t) := by
  have hz := (hK f hf).1
  have hL := ps_K_le hK f hf
  unfold wpX_copy
  refine ps_xP1 hf (br_f ps_10 (ps_xP1 ht (br_f ps_10 ⟨ps_in8 hf, ?_⟩)))
  rw [ps_cl8 hf]
  refine br_f h0 (ps_xS ⟨ps_in8 hf, ?_⟩)
  rw [hz]
  refine ps_xG (D := []) (L := L f) (s := 0) (L f).length hf (hR f hf) (Nat.zero_add _) (Nat.le_refl _) hL (by simp; omega) ps_dr_n (fun di' dv' hd => ⟨ps_in8 hf, ?_⟩)
  rw [ps_aq_eq, ps_g_all, List.nil_append] at hd ⊢
  exact ps_xV (ps_hc _) ht hR (ps_K_le hK) hd (by omega) (fun r u' o => by obtain ⟨_, _, _, _, _, _, _⟩ := u'; exact h _ _ o)
theorem ps_xput78 {k v : Int32} {s e : Nat} (hK : ps_K kd sz L) (hR : ps_R 48 it vl L) (hf : f < 8) (ht : t < 8) (hs : s ≤ (L f).length) (he : e ≤ (L f).length)
    (h : ∀ r u', ps_out ps_X kd sz L 1 24 t (ps_aq (ps_aq [] (ps_g (L f) 0) s ++ [(k, v)]) (ps_g (L f) e) ((L f).length - e)) r u' → post r u') :
    wX_put_78 post (nI f) k v (nI t) (nI s) (nI e) ds kd sz it vl di dv := by
  have hz := (hK f hf).1
  have hL := ps_K_le hK f hf
  unfold wX_put_78
  refine ps_xS ?_
  refine ps_xG (D := []) (L := L f) (s := 0) s hf (hR f hf) (Nat.zero_add _) hs hL (by simp; omega) ps_dr_n (fun di1 dv1 hd1 => ?_)
  have l1 := ps_aq_g [] (L f) 0 s
  rw [List.length_nil] at l1
  refine ps_xD hd1 (by omega) (fun di2 dv2 hd2 => ⟨ps_in8 hf, ?_⟩)
  have l2 := ps_len1 (ps_aq [] (ps_g (L f) 0) s) (k, v)
  rw [ps_cl8 hf, hz]
  refine ps_xG (L := L f) ((L f).length - e) hf (hR f hf) (by omega) (Nat.le_refl _) hL (by omega) hd2 (fun di3 dv3 hd3 => ?_)
  have l3 := ps_aq_g (ps_aq [] (ps_g (L f) 0) s ++ [(k, v)]) (L f) e ((L f).length - e)
  exact ps_xV (Or.inl ⟨rfl, rfl⟩) ht hR (ps_K_le hK) hd3 (by omega) (fun r u' o => by obtain ⟨_, _, _, _, _, _, _⟩ := u'; exact h _ _ o)
theorem ps_xput {k v : Int32} (hK : ps_K kd sz L) (hR : ps_R 48 it vl L) (hf : f < 8) (ht : t < 8) (h1 : kd f = 1)
    (h : ∀ r u', ps_out ps_X kd sz L 1 24 t (ps_ins k v (L f)) r u' → post r u') : wpX_put post (ds, kd, sz, it, vl, di, dv) (nI f) k v (nI t) := by
  have hz := (hK f hf).1
  have hL := ps_K_le hK f hf
  have b := ps_kb_le k (L f)
  unfold wpX_put
  refine ps_xP1 hf (br_f ps_10 (ps_xP1 ht (br_f ps_10 ⟨ps_in8 hf, ?_⟩)))
  rw [ps_cl8 hf]
  refine br_t h1 (ps_xR ⟨ps_in8 hf, ?_⟩)
  rw [hz]
  refine ps_xK hf (hR f hf) hL ?_
  refine ps_xH hf hz (hR f hf) hL (fun q => br_f ps_10 ?_) (fun q => br_t rfl ?_)
  · have q1 := q.1
    rw [← ps_put_y q] at h
    rw [nI_1]
    exact ps_xput78 hK hR hf ht b (by omega) h
  · rw [← ps_put_n q] at h
    exact ps_xput78 hK hR hf ht b b h
theorem ps_xrem77 {s e : Nat} (hK : ps_K kd sz L) (hR : ps_R 48 it vl L) (hf : f < 8) (ht : t < 8) (hs : s ≤ (L f).length) (he : e ≤ (L f).length)
    (h : ∀ r u', ps_out ps_X kd sz L 1 24 t (ps_aq (ps_aq [] (ps_g (L f) 0) s) (ps_g (L f) e) ((L f).length - e)) r u' → post r u') :
    wX_remove_77 post (nI f) (nI t) (nI s) (nI e) ds kd sz it vl di dv := by
  have hz := (hK f hf).1
  have hL := ps_K_le hK f hf
  unfold wX_remove_77
  refine ps_xS ?_
  refine ps_xG (D := []) (L := L f) (s := 0) s hf (hR f hf) (Nat.zero_add _) hs hL (by simp; omega) ps_dr_n (fun di1 dv1 hd1 => ⟨ps_in8 hf, ?_⟩)
  have l1 := ps_aq_g [] (L f) 0 s
  rw [List.length_nil] at l1
  rw [ps_cl8 hf, hz]
  refine ps_xG (L := L f) ((L f).length - e) hf (hR f hf) (by omega) (Nat.le_refl _) hL (by omega) hd1 (fun di3 dv3 hd3 => ?_)
  have l3 := ps_aq_g (ps_aq [] (ps_g (L f) 0) s) (L f) e ((L f).length - e)
  exact ps_xV (Or.inl ⟨rfl, rfl⟩) ht hR (ps_K_le hK) hd3 (by omega) (fun r u' o => by obtain ⟨_, _, _, _, _, _, _⟩ := u'; exact h _ _ o)
theorem ps_xrem {k : Int32} (hK : ps_K kd sz L) (hR : ps_R 48 it vl L) (hf : f < 8) (ht : t < 8) (h1 : kd f = 1)
    (h : ∀ r u', ps_out ps_X kd sz L 1 24 t (ps_rm k (L f)) r u' → post r u') : wpX_remove post (ds, kd, sz, it, vl, di, dv) (nI f) k (nI t) := by
  have hz := (hK f hf).1
  have hL := ps_K_le hK f hf
  have b := ps_kb_le k (L f)
  unfold wpX_remove
  refine ps_xP1 hf (br_f ps_10 (ps_xP1 ht (br_f ps_10 ⟨ps_in8 hf, ?_⟩)))
  rw [ps_cl8 hf]
  refine br_t h1 (ps_xR ⟨ps_in8 hf, ?_⟩)
  rw [hz]
  refine ps_xK hf (hR f hf) hL ?_
  refine ps_xH hf hz (hR f hf) hL (fun q => br_f ps_10 ?_) (fun q => br_t rfl ?_)
  · have q1 := q.1
    rw [← ps_rem_y q] at h
    rw [nI_1]
    exact ps_xrem77 hK hR hf ht b (by omega) h
  · rw [← ps_rem_n q] at h
    exact ps_xrem77 hK hR hf ht b b h
theorem ps_xins {i : Nat} {v : Int32} (hK : ps_K kd sz L) (hR : ps_R 48 it vl L) (hf : f < 8) (ht : t < 8) (h2 : kd f = 2) (hi : i ≤ (L f).length)
    (h : ∀ r u', ps_out ps_X kd sz L 2 48 t (ps_aq (ps_aq [] (ps_g (L f) 0) i ++ [(v, 0)]) (ps_g (L f) i) ((L f).length - i)) r u' → post r u') :
    wpX_insert post (ds, kd, sz, it, vl, di, dv) (nI f) (nI i) v (nI t) := by
  have hz := (hK f hf).1
  have hL := ps_K_le hK f hf
  unfold wpX_insert
  refine ps_xP1 hf (br_f ps_10 (ps_xP1 ht (br_f ps_10 ⟨ps_in8 hf, ?_⟩)))
  rw [ps_cl8 hf]
  refine br_t h2 (br_f (nI_pos (by omega)) ⟨ps_in8 hf, ?_⟩)
  rw [hz]
  refine br_t (nI_le hi (by omega)) (ps_xS ?_)
  refine ps_xG (D := []) (L := L f) (s := 0) i hf (hR f hf) (Nat.zero_add _) hi hL (by simp; omega) ps_dr_n (fun di1 dv1 hd1 => ?_)
  have l1 := ps_aq_g [] (L f) 0 i
  rw [List.length_nil] at l1
  refine ps_xD hd1 (by omega) (fun di2 dv2 hd2 => ⟨ps_in8 hf, ?_⟩)
  have l2 := ps_len1 (ps_aq [] (ps_g (L f) 0) i) (v, 0)
  rw [hz]
  refine ps_xG (L := L f) ((L f).length - i) hf (hR f hf) (by omega) (Nat.le_refl _) hL (by omega) hd2 (fun di3 dv3 hd3 => ?_)
  have l3 := ps_aq_g (ps_aq [] (ps_g (L f) 0) i ++ [(v, 0)]) (L f) i ((L f).length - i)
  exact ps_xV (Or.inr ⟨by decide, rfl⟩) ht hR (ps_K_le hK) hd3 (by omega) (fun r u' o => by obtain ⟨_, _, _, _, _, _, _⟩ := u'; exact h _ _ o)
theorem ps_xref {pst : Int32 → Prop} {i j : Nat} (hK : ps_K kd sz L) (hf : f < 8) (ht : t < 8) (h2 : kd f = 2) (hi : i ≤ j) (hj : j ≤ (L f).length) (h : pst 0) :
    wpX_refusalOfRange pst (ds, kd, sz, it, vl, di, dv) (nI f) (nI i) (nI j) (nI t) := by
  have hz := (hK f hf).1
  have hL := ps_K_le hK f hf
  unfold wpX_refusalOfRange
  refine ps_xP1 hf (br_f ps_10 (ps_xP1 ht (br_f ps_10 ⟨ps_in8 hf, ?_⟩)))
  rw [ps_cl8 hf]
  refine br_t h2 (br_f (nI_pos (by omega)) (br_f (nI_nlt hi (by omega)) ⟨ps_in8 hf, ?_⟩))
  rw [hz]
  exact br_f (nI_nlt hj (by omega)) h
theorem ps_xcut {i j : Nat} (hK : ps_K kd sz L) (hR : ps_R 48 it vl L) (hf : f < 8) (ht : t < 8) (h2 : kd f = 2) (hi : i ≤ j) (hj : j ≤ (L f).length)
    (h : ∀ r u', ps_out ps_X kd sz L 2 48 t (ps_aq (ps_aq [] (ps_g (L f) 0) i) (ps_g (L f) j) ((L f).length - j)) r u' → post r u') :
    wpX_cut post (ds, kd, sz, it, vl, di, dv) (nI f) (nI i) (nI j) (nI t) := by
  have hz := (hK f hf).1
  have hL := ps_K_le hK f hf
  unfold wpX_cut
  refine ps_xref hK hf ht h2 hi hj (br_t rfl (ps_xS ?_))
  refine ps_xG (D := []) (L := L f) (s := 0) i hf (hR f hf) (Nat.zero_add _) (by omega) hL (by simp; omega) ps_dr_n (fun di1 dv1 hd1 => ⟨ps_in8 hf, ?_⟩)
  have l1 := ps_aq_g [] (L f) 0 i
  rw [List.length_nil] at l1
  rw [ps_cl8 hf, hz]
  refine ps_xG (L := L f) ((L f).length - j) hf (hR f hf) (by omega) (Nat.le_refl _) hL (by omega) hd1 (fun di3 dv3 hd3 => ?_)
  have l3 := ps_aq_g (ps_aq [] (ps_g (L f) 0) i) (L f) j ((L f).length - j)
  exact ps_xV (Or.inr ⟨by decide, rfl⟩) ht hR (ps_K_le hK) hd3 (by omega) (fun r u' o => by obtain ⟨_, _, _, _, _, _, _⟩ := u'; exact h _ _ o)
theorem ps_xpart {i j : Nat} (hK : ps_K kd sz L) (hR : ps_R 48 it vl L) (hf : f < 8) (ht : t < 8) (h2 : kd f = 2) (hi : i ≤ j) (hj : j ≤ (L f).length)
    (h : ∀ r u', ps_out ps_X kd sz L 2 48 t (ps_aq [] (ps_g (L f) i) (j - i)) r u' → post r u') :
    wpX_part post (ds, kd, sz, it, vl, di, dv) (nI f) (nI i) (nI j) (nI t) := by
  have hL := ps_K_le hK f hf
  unfold wpX_part
  refine ps_xref hK hf ht h2 hi hj (br_t rfl (ps_xS ?_))
  refine ps_xG (D := []) (L := L f) (s := i) (j - i) hf (hR f hf) (by omega) hj hL (by simp; omega) ps_dr_n (fun di1 dv1 hd1 => ?_)
  have l1 := ps_aq_g [] (L f) i (j - i)
  rw [List.length_nil] at l1
  exact ps_xV (Or.inr ⟨by decide, rfl⟩) ht hR (ps_K_le hK) hd1 (by omega) (fun r u' o => by obtain ⟨_, _, _, _, _, _, _⟩ := u'; exact h _ _ o)
theorem ps_xjoin {g : Nat} (hK : ps_K kd sz L) (hR : ps_R 48 it vl L) (hf : f < 8) (hg : g < 8) (ht : t < 8) (h2 : kd f = 2) (h3 : kd g = 2)
    (h : ∀ r u', ps_out ps_X kd sz L 2 48 t (ps_aq (ps_aq [] (ps_g (L f) 0) (L f).length) (ps_g (L g) 0) (L g).length) r u' → post r u') :
    wpX_join post (ds, kd, sz, it, vl, di, dv) (nI f) (nI g) (nI t) := by
  have hz := (hK f hf).1
  have hzg := (hK g hg).1
  have hL := ps_K_le hK f hf
  have hLg := ps_K_le hK g hg
  unfold wpX_join
  refine ps_xP1 hf (br_f ps_10 (ps_xP1 hg (br_f ps_10 (ps_xP1 ht (br_f ps_10 ⟨ps_in8 hf, ?_⟩)))))
  rw [ps_cl8 hf, ps_cl8 hg]
  refine br_t h2 ⟨ps_in8 hg, br_t h3 (ps_xS ⟨ps_in8 hf, ?_⟩)⟩
  rw [hz]
  refine ps_xG (D := []) (L := L f) (s := 0) (L f).length hf (hR f hf) (Nat.zero_add _) (Nat.le_refl _) hL (by simp; omega) ps_dr_n (fun di1 dv1 hd1 => ⟨ps_in8 hg, ?_⟩)
  have l1 := ps_aq_g [] (L f) 0 (L f).length
  rw [List.length_nil] at l1
  rw [hzg]
  refine ps_xG (L := L g) (s := 0) (L g).length hg (hR g hg) (Nat.zero_add _) (Nat.le_refl _) hLg (by omega) hd1 (fun di3 dv3 hd3 => ?_)
  have l3 := ps_aq_g (ps_aq [] (ps_g (L f) 0) (L f).length) (L g) 0 (L g).length
  exact ps_xV (Or.inr ⟨by decide, rfl⟩) ht hR (ps_K_le hK) hd3 (by omega) (fun r u' o => by obtain ⟨_, _, _, _, _, _, _⟩ := u'; exact h _ _ o)
theorem ps_ft_len (M : List ps_E) (n : Nat) : (ps_aq [] (ps_ft M) n).length = n := by
  rw [ps_aq_eq, List.nil_append]
  exact ps_ap_1 _ n (fun _ _ => rfl)
theorem ps_xtl (hK : ps_K kd sz L) (hR : ps_R 48 it vl L) (hf : f < 8) (ht : t < 8) (h2 : kd f = 2)
    (h : ∀ r u', ps_out ps_X kd sz L 2 48 t (ps_aq [] (ps_ft (L f)) (L f).length) r u' → post r u') :
    ∀ c, c ≤ (L f).length → ∀ di dv, ps_dr 48 di dv (ps_aq [] (ps_ft (L f)) ((L f).length - c)) → wX_turn_51 post (nI t) (nI (48 * f)) (c + 1) (nI c - 1) (nI (ps_aq [] (ps_ft (L f)) ((L f).length - c)).length) kd sz it vl di dv := by
  have hL := ps_K_le hK f hf
  have hzz := (ps_kok_2 (hK f hf).2 h2).2
  intro c
  induction c with
  | zero =>
    intro _ di dv hd
    have l := ps_ft_len (L f) (L f).length
    exact br_t (by decide) (ps_xV (Or.inr ⟨by decide, rfl⟩) ht hR (ps_K_le hK) hd (by rw [Nat.sub_zero]; omega) (fun r u' o => by obtain ⟨_, _, _, _, _, _, _⟩ := u'; exact h _ _ o))
  | succ c ih =>
    intro hc di dv hd
    have l := ps_ft_len (L f) ((L f).length - (c + 1))
    have r := hR f hf c (by omega)
    have z2 : nI c + (-1) = nI c - 1 := (Int32.sub_eq_add_neg _ _).symm
    rw [nI_pred]
    refine br_f (nI_pos (by omega)) ⟨ps_inX hf (by omega), ?_⟩
    rw [ps_clX hf (by omega), r.1]
    refine ps_xD hd (by omega) (fun di' dv' hd' => nm_r z2 ?_)
    rw [ps_z_pr hzz, ps_ft_1 (L f) c (by omega)] at hd' ⊢
    exact ih (by omega) di' dv' hd'
theorem ps_xturn (hK : ps_K kd sz L) (hR : ps_R 48 it vl L) (hf : f < 8) (ht : t < 8) (h2 : kd f = 2)
    (h : ∀ r u', ps_out ps_X kd sz L 2 48 t (ps_aq [] (ps_ft (L f)) (L f).length) r u' → post r u') :
    wpX_turn post (ds, kd, sz, it, vl, di, dv) (nI f) (nI t) := by
  have hz := (hK f hf).1
  unfold wpX_turn
  refine ps_xP1 hf (br_f ps_10 (ps_xP1 ht (br_f ps_10 ⟨ps_in8 hf, ?_⟩)))
  rw [ps_cl8 hf]
  refine br_t h2 (ps_xS (ps_xR ⟨ps_in8 hf, ?_⟩))
  rw [hz]
  refine nm_e ⟨(L f).length + 1, ?_⟩
  have w := ps_xtl hK hR hf ht h2 h (L f).length (Nat.le_refl _) di dv
  rw [Nat.sub_self] at w
  exact w ps_dr_n
end
end
section
section
variable {kd sz it vl di dv : Nat → Int32} {ds : Int32} {L : Nat → List ps_E} {f t : Nat} {post : Int32 → Prop}
theorem ps_xval {k : Int32} (hK : ps_K kd sz L) (hR : ps_R 48 it vl L) (hf : f < 8) (h1 : kd f = 1) (h : post ((ps_get k (L f)).getD 0)) : wpX_value post (ds, kd, sz, it, vl, di, dv) (nI f) k := by
  have hz := (hK f hf).1
  have hL := ps_K_le hK f hf
  have b := ps_kb_le k (L f)
  have hs := (ps_kok_1 (hK f hf).2 h1).2
  unfold wpX_value
  refine ps_xO hf (fun _ => br_f ps_10 ?_) (fun q => absurd h1 q)
  refine ps_xR ⟨ps_in8 hf, ?_⟩
  rw [ps_cl8 hf, hz]
  refine ps_xK hf (hR f hf) hL ?_
  refine ps_xH hf hz (hR f hf) hL (fun q => br_f ps_10 ?_) (fun q => br_t rfl ?_)
  · have q1 := q.1
    refine ⟨ps_inX hf (by omega), ?_⟩
    rw [ps_clX hf (by omega), (hR f hf _ q1).2]
    rw [ps_get_hit k _ q] at h
    exact h
  · rw [ps_get_nhit k _ hs q] at h
    exact h
theorem ps_xitem {kind : Int32} {j : Nat} (hK : ps_K kd sz L) (hR : ps_R 48 it vl L) (hf : f < 8) (hk : kd f = kind) (hj : j < 2 ^ 31) (hy : j < (L f).length → post (ps_at (L f) j).1) (hn : ¬ j < (L f).length → post 0) :
    wpX_itemOf post (ds, kd, sz, it, vl, di, dv) (nI f) kind (nI j) := by
  have hz := (hK f hf).1
  have hL := ps_K_le hK f hf
  unfold wpX_itemOf
  refine ps_xO hf (fun _ => br_f ps_10 (br_f (nI_pos hj) ⟨ps_in8 hf, ?_⟩)) (fun q => absurd hk q)
  rw [ps_cl8 hf, hz]
  refine pk_lt j (L f).length (fun c => ?_) (fun c => hn (by omega))
  refine ps_xR ⟨ps_inX hf (by omega), ?_⟩
  rw [ps_clX hf (by omega), (hR f hf j c).1]
  exact hy c
theorem ps_xitem_k {kind i : Int32} (hf : f < 8) (hk : ¬ kd f = kind) (h : post 0) : wpX_itemOf post (ds, kd, sz, it, vl, di, dv) (nI f) kind i := by
  unfold wpX_itemOf
  exact ps_xO hf (fun q => absurd q hk) (fun _ => br_t rfl h)
theorem ps_xitem_p {kind i x : Int32} (hx : ¬ ∃ p, p < 8 ∧ x = nI p) (h : post 0) : wpX_itemOf post (ds, kd, sz, it, vl, di, dv) x kind i := by
  unfold wpX_itemOf
  exact ps_xO0 hx (br_t rfl h)
theorem ps_xitem_n {kind i : Int32} (hf : f < 8) (hk : kd f = kind) (hi : i < 0) (h : post 0) : wpX_itemOf post (ds, kd, sz, it, vl, di, dv) (nI f) kind i := by
  unfold wpX_itemOf
  exact ps_xO hf (fun _ => br_f ps_10 (br_t hi h)) (fun q => absurd hk q)
theorem ps_xabout {w : Nat} (hf : f < 8) (hw : w < 2) (h : post (if w = 0 then kd f else sz f)) : wpX_about post (ds, kd, sz, it, vl, di, dv) (nI f) (nI w) := by
  unfold wpX_about
  refine ps_xP1 hf (br_f ps_10 (br_f (nI_pos (by omega)) (br_t (nI_le (b := 1) (by omega) (by decide)) ?_)))
  rw [ps_cl8 hf]
  refine pk_eq w 0 (fun c => ⟨ps_in8 hf, ?_⟩) (fun c => ⟨ps_in8 hf, ?_⟩)
  · rw [if_pos c] at h; exact h
  · rw [if_neg c] at h; exact h
/-- the pairs from c on agree -/
def ps_agr (A B : List ps_E) (c : Nat) : Prop := ∀ k, c ≤ k → k < A.length → ps_at A k = ps_at B k
theorem ps_agr_1 {A B : List ps_E} {c : Nat} (h : ps_at A c = ps_at B c) : ps_agr A B c ↔ ps_agr A B (c + 1) :=
  ⟨fun q k h1 h2 => q k (by omega) h2, fun q k h1 h2 => by
    by_cases w : k = c
    · rw [w]; exact h
    · exact q k (by omega) h2⟩
theorem ps_xsl {g : Nat} (hR : ps_R 48 it vl L) (hf : f < 8) (hg : g < 8) (hlen : (L f).length = (L g).length) (hL : (L f).length ≤ 48) :
    ∀ (c s : Nat), s + c = (L f).length → (ps_agr (L f) (L g) s → post 1) → (¬ ps_agr (L f) (L g) s → post 0) → wX_same_83 post (nI (48 * f)) (nI (48 * g)) (nI (L f).length) ds kd sz it vl di dv (c + 1) (nI s) := by
  intro c
  induction c with
  | zero =>
    intro s e hy hn
    exact br_t (nI_le (by omega) (by omega)) (hy (fun k h1 h2 => absurd h1 (by omega)))
  | succ c ih =>
    intro s e hy hn
    have i1 : s < 48 := by omega
    have ra := hR f hf s (by omega)
    have rb := hR g hg s (by omega)
    refine br_f (nI_ge (by omega) (by omega)) ⟨ps_inX hf i1, ps_inX hg i1, ?_⟩
    rw [ps_clX hf i1, ps_clX hg i1, ra.1, rb.1, ra.2, rb.2]
    refine br_c (fun q1 => ⟨ps_inX hf i1, ps_inX hg i1, br_c (fun q2 => nm_r (nI_1 s) ?_) (fun q2 => ?_)⟩) (fun q1 => ?_)
    · have w := ps_agr_1 (Prod.ext q1 q2)
      exact ih (s + 1) (by omega) (fun z => hy (w.mpr z)) (fun z => hn (fun y => z (w.mp y)))
    · exact hn (fun z => q2 (congrArg Prod.snd (z s (Nat.le_refl _) (by omega))))
    · exact hn (fun z => q1 (congrArg Prod.fst (z s (Nat.le_refl _) (by omega))))
theorem ps_xsame {g : Nat} (hK : ps_K kd sz L) (hR : ps_R 48 it vl L) (hf : f < 8) (hg : g < 8) (h0 : ¬ kd f = 0) (hk : kd f = kd g) (hs : sz f = sz g) (hy : ps_agr (L f) (L g) 0 → post 1) (hn : ¬ ps_agr (L f) (L g) 0 → post 0) :
    wpX_same post (ds, kd, sz, it, vl, di, dv) (nI f) (nI g) := by
  have hz := (hK f hf).1
  have hL := ps_K_le hK f hf
  have hLg := ps_K_le hK g hg
  have hlen : (L f).length = (L g).length := by
    have e : nI (L f).length = nI (L g).length := by rw [← hz, ← (hK g hg).1]; exact hs
    exact (nI_eq (by omega) (by omega)).mp e
  unfold wpX_same
  refine ps_xP1 hf (br_f ps_10 (ps_xP1 hg (br_f ps_10 ⟨ps_in8 hf, ?_⟩)))
  rw [ps_cl8 hf, ps_cl8 hg]
  refine br_f h0 ⟨ps_in8 hf, ps_in8 hg, br_t hk ⟨ps_in8 hf, ps_in8 hg, br_t hs ?_⟩⟩
  refine ps_xR ?_
  refine ps_xR ⟨ps_in8 hf, ?_⟩
  rw [hz]
  exact nm_e ⟨(L f).length + 1, ps_xsl hR hf hg hlen hL (L f).length 0 (Nat.zero_add _) hy hn⟩
end
section
variable {kd sz it vl di dv : Nat → Int32} {ds : Int32} {L : Nat → List ps_E} {f t : Nat} {post : Int64 → Prop}
theorem ps_xul {i j E : Int32} {s0 : Nat} (hR : ps_R 48 it vl L) (hf : f < 8) (hL : (L f).length ≤ 48) (hE : ∀ k, k < (L f).length → (nI k < E ↔ nI k < j)) (hE2 : E ≤ nI (L f).length) (hi : ∀ k, s0 ≤ k → k < (L f).length → i ≤ nI k) (h : post (ps_sy (L f) i j (L f).length)) :
    ∀ (c s : Nat), s + c = (L f).length → s0 ≤ s → wX_sum_58 post (nI (48 * f)) E ds kd sz it vl di dv (c + 1) (ps_sy (L f) i j s) (nI s) := by
  have out : ∀ s, s ≤ (L f).length → E ≤ nI s → post (ps_sy (L f) i j s) := fun s hs q => by
    obtain ⟨d, hd⟩ : ∃ d, (L f).length = s + d := ⟨(L f).length - s, by omega⟩
    have w := ps_sy_c (L f) i j s d (fun k h1 h2 => fun z => by
      have a := (hE k (by omega)).mpr z.2
      have b : nI s ≤ nI k := nI_le h1 (by omega)
      exact absurd (Int32.lt_of_lt_of_le a (Int32.le_trans q b)) Int32.lt_irrefl)
    rw [hd, w] at h
    exact h
  intro c
  induction c with
  | zero =>
    intro s e hs
    have q : s = (L f).length := by omega
    rw [← q] at hE2
    exact br_t hE2 (out s (by omega) hE2)
  | succ c ih =>
    intro s e hs
    have i1 : s < 48 := by omega
    have r := hR f hf s (by omega)
    refine br_c (fun q => out s (by omega) q) (fun q => ⟨ps_inX hf i1, ?_⟩)
    rw [ps_clX hf i1, r.1]
    have y : ps_sy (L f) i j (s + 1) = ps_sy (L f) i j s + (ps_at (L f) s).1.toInt64 := ps_sy_y ⟨hi s hs (by omega), (hE s (by omega)).mp (Int32.not_le.mp q)⟩
    exact nm_r y.symm (nm_r (nI_1 s) (ih (s + 1) (by omega) (by omega)))
theorem ps_xu2 {i j E : Int32} {s0 : Nat} (hR : ps_R 48 it vl L) (hf : f < 8) (hL : (L f).length ≤ 48) (hs0 : s0 < 2 ^ 31) (hE : ∀ k, k < (L f).length → (nI k < E ↔ nI k < j)) (hE2 : E ≤ nI (L f).length) (hi : ∀ k, s0 ≤ k → k < (L f).length → i ≤ nI k) (hi2 : ∀ k, k < s0 → ¬ i ≤ nI k) (h : post (ps_sy (L f) i j (L f).length)) :
    ∃ n : Nat, wX_sum_58 post (nI (48 * f)) E ds kd sz it vl di dv n 0 (nI s0) := by
  by_cases c : s0 ≤ (L f).length
  · have w := ps_xul (ds := ds) (kd := kd) (sz := sz) (di := di) (dv := dv) hR hf hL hE hE2 hi h ((L f).length - s0) s0 (by omega) (Nat.le_refl _)
    rw [ps_sy_0 (L f) i j s0 (fun k hk z => hi2 k hk z.1)] at w
    exact ⟨_, w⟩
  · refine ⟨1, br_t (Int32.le_trans hE2 (nI_le (by omega) hs0)) ?_⟩
    rw [ps_sy_0 (L f) i j (L f).length (fun k hk z => hi2 k (by omega) z.1)] at h
    exact h
theorem ps_xu27 {i j : Int32} {s0 : Nat} (hK : ps_K kd sz L) (hR : ps_R 48 it vl L) (hf : f < 8) (hs0 : s0 < 2 ^ 31) (hi : ∀ k, s0 ≤ k → k < (L f).length → i ≤ nI k) (hi2 : ∀ k, k < s0 → ¬ i ≤ nI k) (h : post (ps_sy (L f) i j (L f).length)) :
    wX_sum_27 post (nI f) j (nI (48 * f)) (nI s0) ds kd sz it vl di dv := by
  have hz := (hK f hf).1
  have hL := ps_K_le hK f hf
  refine ⟨ps_in8 hf, ?_⟩
  rw [ps_cl8 hf, hz]
  refine br_c (fun q => ps_xu2 hR hf hL hs0 (fun k hk => Iff.rfl) q hi hi2 h) (fun q => ⟨ps_in8 hf, nm_e ?_⟩)
  have q2 := Int32.not_le.mp q
  exact ps_xu2 hR hf hL hs0 (fun k hk => ⟨fun z => Int32.lt_trans z q2, fun _ => nI_lt hk (by omega)⟩) (Int32.le_refl _) hi hi2 h
theorem ps_xsum {i j : Int32} (hK : ps_K kd sz L) (hR : ps_R 48 it vl L) (hf : f < 8) (h2 : kd f = 2) (h : post (ps_sy (L f) i j (L f).length)) :
    wpX_sum post (ds, kd, sz, it, vl, di, dv) (nI f) i j := by
  have hL := ps_K_le hK f hf
  unfold wpX_sum
  refine ps_xO hf (fun _ => br_f ps_10 ?_) (fun q => absurd h2 q)
  refine ps_xR ?_
  refine br_c (fun q => ?_) (fun q => ?_)
  · obtain ⟨m, hm, rfl⟩ := nI_of (x := i) (Int32.not_lt.mpr q)
    exact ps_xu27 hK hR hf hm (fun k h1 h2 => nI_le h1 (by omega)) (fun k hk => nI_ge hk hm) h
  · have q2 := Int32.not_le.mp q
    exact ps_xu27 (s0 := 0) hK hR hf (by decide) (fun k h1 h2 => Int32.le_trans (Int32.le_of_lt q2) (nI_pos' (by omega))) (fun k hk => absurd hk (Nat.not_lt_zero k)) h
end
end
section
theorem ps_dr_pre {m : Nat} {x y : Nat → Int32} {D E : List ps_E} (h : ps_dr m x y (D ++ E)) : ps_dr m x y D := fun i hi hm => by
  have g := h i (by rw [List.length_append]; omega) hm
  rw [ps_at_l D E i hi] at g
  exact g
theorem ps_len_in (D : List ps_E) (e : ps_E) (s : Nat) (hs : s ≤ D.length) : (D.take s ++ e :: D.drop s).length = D.length + 1 := by
  rw [List.length_append, List.length_take, List.length_cons, List.length_drop]; omega
theorem ps_len_w (D : List ps_E) (e : ps_E) (s : Nat) (hs : s < D.length) : (D.take s ++ e :: D.drop (s + 1)).length = D.length := by
  rw [List.length_append, List.length_take, List.length_cons, List.length_drop]; omega
/-- a write at the place of an inserted pair -/
theorem ps_in_w (D : List ps_E) (e g : ps_E) (s : Nat) (hs : s ≤ D.length) : (D.take s ++ e :: D.drop s).take s ++ g :: (D.take s ++ e :: D.drop s).drop (s + 1) = D.take s ++ g :: D.drop s := by
  have l : (D.take s).length = s := by rw [List.length_take]; omega
  have a : (D.take s ++ e :: D.drop s).take s = D.take s := by
    have q := List.take_left (l₁ := D.take s) (l₂ := e :: D.drop s)
    rw [l] at q
    exact q
  have b : (D.take s ++ e :: D.drop s).drop (s + 1) = D.drop s := by
    have q := List.drop_append (l₁ := D.take s) (l₂ := e :: D.drop s) (i := s + 1)
    rw [q, l, List.drop_eq_nil_of_le (by rw [l]; omega), show s + 1 - s = 1 by omega]
    rfl
  rw [a, b]
section
variable {kd sz it vl di dv : Nat → Int32} {ds : Int32} {D : List ps_E}
theorem ps_xOl {post : SX → Prop} {s : Nat} {e : Int32} (hs : s ≤ D.length) (hD : D.length < 48)
    (h : ∀ di' dv', ps_dr 48 di' dv' (D.take s ++ (e, 0) :: D.drop s) → post (ds, kd, sz, it, vl, di', dv')) :
    ∀ c, s + c ≤ D.length → ∀ di dv, ps_sh di dv D (s + c) → wX_openDraftAt_13 post (nI s) e ds (c + 1) (nI (s + c)) kd sz it vl di dv := by
  intro c
  induction c with
  | zero =>
    intro hc di dv hh
    refine br_t (nI_le (by omega) (by omega)) ⟨pk_in s 48 (by omega), fun y' ey => ⟨pk_in s 48 (by omega), fun z ez => ?_⟩⟩
    rw [ps_cl (by omega)] at ey ez
    subst ey ez
    exact h _ _ (ps_sh_e hh hs)
  | succ c ih =>
    intro hc di dv hh
    have z : nI (s + (c + 1)) - 1 = nI (s + c) := nI_pred (s + c)
    have z2 : nI (s + (c + 1)) + (-1) = nI (s + c) := pk_m1 (s + c)
    refine br_f (nI_ge (by omega) (by omega)) ?_
    rw [z, ps_cl (i := s + c) (by omega), ps_cl (i := s + (c + 1)) (by omega)]
    refine ⟨pk_in (s + c) 48 (by omega), pk_in (s + (c + 1)) 48 (by omega), fun y' ey => ⟨pk_in (s + c) 48 (by omega), pk_in (s + (c + 1)) 48 (by omega), fun z' ez => nm_r z2 ?_⟩⟩
    subst ey ez
    exact ih (by omega) _ _ (ps_sh_1 (n := s + c) hh (by omega) rfl rfl)
theorem ps_xOp {post : SX → Prop} {s : Nat} {e : Int32} (hs : s ≤ D.length) (hD : D.length < 48) (hd : ps_dr 48 di dv D)
    (h : ∀ di' dv', ps_dr 48 di' dv' (D.take s ++ (e, 0) :: D.drop s) → post (nI (D.length + 1), kd, sz, it, vl, di', dv')) :
    wpX_openDraftAt post (nI D.length, kd, sz, it, vl, di, dv) (nI s) e := by
  unfold wpX_openDraftAt
  refine ps_xD hd (by omega) (fun di' dv' hd' => ?_)
  rw [ps_len1]
  refine nm_r (nI_pred _) ?_
  have w := ps_xOl (kd := kd) (sz := sz) (it := it) (vl := vl) (ds := nI (D.length + 1)) hs hD h (D.length - s) (by omega) di' dv'
  rw [show s + (D.length - s) = D.length by omega] at w
  exact ⟨_, w (ps_sh_0 (ps_dr_pre hd') (by omega))⟩
theorem ps_x43 {post : SX → Prop} {s w : Nat} {ix : Int32} (hw : w < 4) (hs : s < D.length) (hs48 : s < 48) (hd : ps_dr 48 di dv D)
    (h : ∀ dv', ps_dr 48 di dv' (D.take s ++ ((ps_at D s).1, if w = 2 then (ps_at D s).2 + 1 else ix) :: D.drop (s + 1)) → post (ds, kd, sz, it, vl, di, dv')) :
    wX_draftTally_43 post ix (nI w) (nI s) ds kd sz it vl di dv := by
  have g := hd s hs hs48
  unfold wX_draftTally_43
  refine pk_eq w 2 (fun c => ⟨pk_in s 48 hs48, pk_in s 48 hs48, fun y ey => ?_⟩) (fun c => ⟨pk_in s 48 hs48, fun y ey => ?_⟩)
  · rw [ps_cl (by omega), g.2] at ey
    subst ey
    rw [if_pos c] at h
    exact h _ (ps_dr_w hd hs ⟨g.1, pk_us⟩ (fun j hj => ⟨rfl, pk_un hj⟩))
  · rw [ps_cl (by omega)] at ey
    subst ey
    rw [if_neg c] at h
    exact h _ (ps_dr_w hd hs ⟨g.1, pk_us⟩ (fun j hj => ⟨rfl, pk_un hj⟩))
theorem ps_xTy {post : SX → Prop} {w : Nat} {e ix : Int32} (hw : w < 4) (hd : ps_dr 48 di dv D) (hD : D.length < 48) (hsr : ps_srt D)
    (h : ∀ di' dv', ps_dr 48 di' dv' (ps_ins e (if w = 2 then (ps_get e D).getD 0 + 1 else ix) D) → post (nI (ps_ins e (if w = 2 then (ps_get e D).getD 0 + 1 else ix) D).length, kd, sz, it, vl, di', dv')) :
    wpX_draftTally post (nI D.length, kd, sz, it, vl, di, dv) e ix (nI w) := by
  have b := ps_kb_le e D
  have no : ¬ ps_hit e D → wX_draftTally_36 post e ix (nI w) (nI (ps_kb e D)) (nI D.length) kd sz it vl di dv := fun q => by
    unfold wX_draftTally_36
    refine ps_xOp b hD hd (fun di' dv' hd' => ?_)
    have l := ps_len_in D (e, 0) (ps_kb e D) b
    refine ps_x43 hw (by omega) (by omega) hd' (fun dv2 hd2 => ?_)
    rw [ps_in_w D _ _ _ b, ps_at_in2 D _ _ _ b] at hd2
    have gn := ps_get_nhit e D hsr q
    rw [gn, ps_ins_n e _ D q] at h
    rw [ps_len_in D _ _ b] at h
    exact h _ _ hd2
  unfold wpX_draftTally
  refine ps_xJ hd (by omega) ?_
  refine pk_eq (ps_kb e D) D.length (fun c => no (fun q => absurd q.1 (by omega))) (fun c => ⟨pk_in (ps_kb e D) 48 (by omega), ?_⟩)
  have i1 : ps_kb e D < D.length := by omega
  have g := hd _ i1 (by omega)
  rw [ps_cl (i := ps_kb e D) (by omega), g.1]
  refine br_c (fun q => ?_) (fun q => no (fun z => q z.2))
  refine ps_x43 hw i1 (by omega) hd (fun dv2 hd2 => ?_)
  have gy := ps_get_hit e D ⟨i1, q⟩
  rw [gy, ps_ins_y e _ D ⟨i1, q⟩, ps_len_w D _ _ i1] at h
  rw [q] at hd2
  exact h _ _ hd2
end
section
variable {kd sz it vl di dv : Nat → Int32} {ds : Int32} {L : Nat → List ps_E} {f t : Nat} {post : Int32 → SX → Prop}
theorem ps_fc_len (M : List ps_E) (w n : Nat) : (ps_aq [] (ps_fc M w) n).length = n := by
  rw [ps_aq_eq, List.nil_append]
  exact ps_ap_1 _ n (fun _ _ => rfl)
theorem ps_xvl1 {w : Nat} (hK : ps_K kd sz L) (hR : ps_R 48 it vl L) (hf : f < 8) (ht : t < 8) (hw : w < 2)
    (h : ∀ r u', ps_out ps_X kd sz L 2 48 t (ps_aq [] (ps_fc (L f) w) (L f).length) r u' → post r u') :
    ∀ (c k : Nat), k + c = (L f).length → ∀ di dv, ps_dr 48 di dv (ps_aq [] (ps_fc (L f) w) k) → wX_convert_87 post (nI w) (nI t) 1 (nI (48 * f)) (nI (L f).length) (c + 1) (nI k) (nI (ps_aq [] (ps_fc (L f) w) k).length) kd sz it vl di dv := by
  have hL := ps_K_le hK f hf
  intro c
  induction c with
  | zero =>
    intro k e di dv hd
    have q : k = (L f).length := by omega
    subst q
    have l := ps_fc_len (L f) w (L f).length
    exact br_t (nI_le (by omega) (by omega)) (br_f ps_10 (ps_xV (Or.inr ⟨by decide, rfl⟩) ht hR (ps_K_le hK) hd (by omega) (fun r u' o => by obtain ⟨_, _, _, _, _, _, _⟩ := u'; exact h _ _ o)))
  | succ c ih =>
    intro k e di dv hd
    have l := ps_fc_len (L f) w k
    have i1 : k < 48 := by omega
    have r := hR f hf k (by omega)
    refine br_f (nI_ge (by omega) (by omega)) (br_f ps_10 (pk_eq w 0 (fun q => ⟨ps_inX hf i1, ?_⟩) (fun q => ⟨ps_inX hf i1, ?_⟩)))
    · rw [ps_clX hf i1, r.1]
      unfold wX_convert_127
      refine ps_xD hd (by omega) (fun di' dv' hd' => nm_r (nI_1 k) ?_)
      have x := ih (k + 1) (by omega) di' dv'
      have z : ps_aq [] (ps_fc (L f) w) (k + 1) = ps_aq [] (ps_fc (L f) w) k ++ [((ps_at (L f) k).1, 0)] := by
        show ps_aq [] (ps_fc (L f) w) k ++ [(if w = 0 then (ps_at (L f) k).1 else (ps_at (L f) k).2, 0)] = _
        rw [if_pos q]
      rw [z] at x
      exact x hd'
    · rw [ps_clX hf i1, r.2]
      unfold wX_convert_127
      refine ps_xD hd (by omega) (fun di' dv' hd' => nm_r (nI_1 k) ?_)
      have x := ih (k + 1) (by omega) di' dv'
      have z : ps_aq [] (ps_fc (L f) w) (k + 1) = ps_aq [] (ps_fc (L f) w) k ++ [((ps_at (L f) k).2, 0)] := by
        show ps_aq [] (ps_fc (L f) w) k ++ [(if w = 0 then (ps_at (L f) k).1 else (ps_at (L f) k).2, 0)] = _
        rw [if_neg q]
      rw [z] at x
      exact x hd'
theorem ps_xvl2 {w : Nat} (hK : ps_K kd sz L) (hR : ps_R 48 it vl L) (hf : f < 8) (ht : t < 8) (hw : w < 4)
    (h : ∀ r u', ps_out ps_X kd sz L 1 24 t (ps_tx w (L f) (L f).length) r u' → post r u') :
    ∀ (c k : Nat), k + c = (L f).length → ∀ di dv, ps_dr 48 di dv (ps_tx w (L f) k) → wX_convert_87 post (nI w) (nI t) 0 (nI (48 * f)) (nI (L f).length) (c + 1) (nI k) (nI (ps_tx w (L f) k).length) kd sz it vl di dv := by
  have hL := ps_K_le hK f hf
  intro c
  induction c with
  | zero =>
    intro k e di dv hd
    have q : k = (L f).length := by omega
    subst q
    have l := ps_tx_len w (L f) (L f).length
    exact br_t (nI_le (by omega) (by omega)) (br_t rfl (ps_xV (Or.inl ⟨rfl, rfl⟩) ht hR (ps_K_le hK) hd (by omega) (fun r u' o => by obtain ⟨_, _, _, _, _, _, _⟩ := u'; exact h _ _ o)))
  | succ c ih =>
    intro k e di dv hd
    have l := ps_tx_len w (L f) k
    have i1 : k < 48 := by omega
    have r := hR f hf k (by omega)
    refine br_f (nI_ge (by omega) (by omega)) (br_t rfl ⟨ps_inX hf i1, ?_⟩)
    rw [ps_clX hf i1, r.1]
    exact ps_xTy hw hd (by omega) (ps_tx_srt w (L f) k) (fun di' dv' hd' => nm_r (nI_1 k) (ih (k + 1) (by omega) di' dv' hd'))
theorem ps_xcv1 {w : Nat} (hK : ps_K kd sz L) (hR : ps_R 48 it vl L) (hf : f < 8) (ht : t < 8) (hw : w < 2) (h1 : kd f = 1)
    (h : ∀ r u', ps_out ps_X kd sz L 2 48 t (ps_aq [] (ps_fc (L f) w) (L f).length) r u' → post r u') : wpX_convert post (ds, kd, sz, it, vl, di, dv) (nI f) (nI w) (nI t) := by
  have hz := (hK f hf).1
  have g : wX_convert_41 post (nI f) (nI w) (nI t) 1 ds kd sz it vl di dv := by
    refine ⟨ps_in8 hf, br_f ps_10 ?_⟩
    rw [ps_cl8 hf]
    refine br_t h1 (ps_xS (ps_xR ⟨ps_in8 hf, ?_⟩))
    rw [ps_cl8 hf, hz]
    exact nm_e ⟨(L f).length + 1, ps_xvl1 hK hR hf ht hw h (L f).length 0 (Nat.zero_add _) di dv ps_dr_n⟩
  unfold wpX_convert
  refine ps_xP1 hf (br_f ps_10 (ps_xP1 ht (br_f ps_10 (br_f (nI_pos (by omega)) (br_t (nI_le (b := 3) (by omega) (by decide)) ?_)))))
  exact pk_eq w 0 (fun _ => g) (fun c => br_t (by rw [show w = 1 by omega]; rfl) g)
theorem ps_xcv2 {w : Nat} (hK : ps_K kd sz L) (hR : ps_R 48 it vl L) (hf : f < 8) (ht : t < 8) (hw : w < 4) (hw2 : 2 ≤ w) (h2 : kd f = 2)
    (h : ∀ r u', ps_out ps_X kd sz L 1 24 t (ps_tx w (L f) (L f).length) r u' → post r u') : wpX_convert post (ds, kd, sz, it, vl, di, dv) (nI f) (nI w) (nI t) := by
  have hz := (hK f hf).1
  have g : wX_convert_41 post (nI f) (nI w) (nI t) 0 ds kd sz it vl di dv := by
    refine ⟨ps_in8 hf, br_t rfl ?_⟩
    rw [ps_cl8 hf]
    refine br_t h2 (ps_xS (ps_xR ⟨ps_in8 hf, ?_⟩))
    rw [ps_cl8 hf, hz]
    exact nm_e ⟨(L f).length + 1, ps_xvl2 hK hR hf ht hw h (L f).length 0 (Nat.zero_add _) di dv ps_dr_n⟩
  unfold wpX_convert
  refine ps_xP1 hf (br_f ps_10 (ps_xP1 ht (br_f ps_10 (br_f (nI_pos (by omega)) (br_t (nI_le (b := 3) (by omega) (by decide)) ?_)))))
  exact pk_eq w 0 (fun c => absurd c (by omega)) (fun _ => pk_eq w 1 (fun c => absurd c (by omega)) (fun _ => g))
end
end
section
section
variable {kd sz it vl di dv : Nat → Int32} {ds : Int32} {D : List ps_E}
theorem ps_cb_a {how : Nat} {v : Int32} (h : how = 3) : ps_cb how (some v) none = none := by unfold ps_cb; exact if_pos h
theorem ps_cb_a' {how : Nat} {v : Int32} (h : ¬ how = 3) : ps_cb how (some v) none = some v := by unfold ps_cb; exact if_neg h
theorem ps_cb_b {how : Nat} {v : Int32} (h : how = 3 ∨ how = 4) : ps_cb how none (some v) = none := by unfold ps_cb; exact if_pos h
theorem ps_cb_b' {how : Nat} {v : Int32} (h : ¬ (how = 3 ∨ how = 4)) : ps_cb how none (some v) = some v := by unfold ps_cb; exact if_neg h
theorem ps_cb_c {how : Nat} {v w : Int32} (h : how = 4 ∨ how = 5) : ps_cb how (some v) (some w) = none := by unfold ps_cb; exact if_pos h
theorem ps_cb_c' {how : Nat} {v w : Int32} (h : ¬ (how = 4 ∨ how = 5)) : ps_cb how (some v) (some w) = some (ps_vv how v w) := by unfold ps_cb; exact if_neg h
theorem ps_on (k : Int32) : ps_o k none = [] := rfl
theorem ps_os (k z : Int32) : ps_o k (some z) = [(k, z)] := rfl
theorem ps_xA {post : SX → Prop} {q how : Nat} {e : ps_E} (hh : how < 6) (hq : q < 384) (hc : ps_c it vl q e) (hd : ps_dr 48 di dv D) (hD : D.length < 1000)
    (h : ∀ di' dv', ps_dr 48 di' dv' (D ++ ps_o e.1 (ps_cb how (some e.2) none)) → post (nI (D ++ ps_o e.1 (ps_cb how (some e.2) none)).length, kd, sz, it, vl, di', dv')) :
    wpX_draftOnlyInA post (nI D.length, kd, sz, it, vl, di, dv) (nI q) (nI how) := by
  unfold wpX_draftOnlyInA
  refine pk_eq how 3 (fun c => ?_) (fun c => ⟨pk_in q 384 hq, pk_in q 384 hq, ?_⟩)
  · rw [ps_cb_a c, ps_on, List.append_nil] at h
    exact h _ _ hd
  · rw [ps_cl (by omega), hc.1, hc.2]
    rw [ps_cb_a' c, ps_os] at h
    exact ps_xD hd hD (fun di' dv' hd' => h _ _ hd')
theorem ps_xB {post : SX → Prop} {q how : Nat} {e : ps_E} (hh : how < 6) (hq : q < 384) (hc : ps_c it vl q e) (hd : ps_dr 48 di dv D) (hD : D.length < 1000)
    (h : ∀ di' dv', ps_dr 48 di' dv' (D ++ ps_o e.1 (ps_cb how none (some e.2))) → post (nI (D ++ ps_o e.1 (ps_cb how none (some e.2))).length, kd, sz, it, vl, di', dv')) :
    wpX_draftOnlyInB post (nI D.length, kd, sz, it, vl, di, dv) (nI q) (nI how) := by
  unfold wpX_draftOnlyInB
  refine pk_eq how 3 (fun c => ?_) (fun c => pk_eq how 4 (fun c2 => ?_) (fun c2 => ⟨pk_in q 384 hq, pk_in q 384 hq, ?_⟩))
  · rw [ps_cb_b (Or.inl c), ps_on, List.append_nil] at h
    exact h _ _ hd
  · rw [ps_cb_b (Or.inr c2), ps_on, List.append_nil] at h
    exact h _ _ hd
  · rw [ps_cl (by omega), hc.1, hc.2]
    rw [ps_cb_b' (by omega), ps_os] at h
    exact ps_xD hd hD (fun di' dv' hd' => h _ _ hd')
theorem ps_xC {post : SX → Prop} {q p how : Nat} {e g : ps_E} (hh : how < 6) (hq : q < 384) (hp : p < 384) (hc : ps_c it vl q e) (hg : ps_c it vl p g) (hd : ps_dr 48 di dv D) (hD : D.length < 1000)
    (h : ∀ di' dv', ps_dr 48 di' dv' (D ++ ps_o e.1 (ps_cb how (some e.2) (some g.2))) → post (nI (D ++ ps_o e.1 (ps_cb how (some e.2) (some g.2))).length, kd, sz, it, vl, di', dv')) :
    wpX_draftInBoth post (nI D.length, kd, sz, it, vl, di, dv) (nI q) (nI p) (nI how) := by
  have z : ¬ (how = 4 ∨ how = 5) → ∀ v, v = ps_vv how e.2 g.2 → wX_draftInBoth_55 post (nI q) v (nI D.length) kd sz it vl di dv := fun w v ev => by
    refine ⟨pk_in q 384 hq, ?_⟩
    rw [ps_cl (by omega), hc.1, ev]
    rw [ps_cb_c' w, ps_os] at h
    exact ps_xD hd hD (fun di' dv' hd' => h _ _ hd')
  unfold wpX_draftInBoth
  refine pk_eq how 4 (fun c => ?_) (fun c => pk_eq how 5 (fun c2 => ?_) (fun c2 => ⟨pk_in q 384 hq, fun y ey => ?_⟩))
  · rw [ps_cb_c (Or.inl c), ps_on, List.append_nil] at h
    exact h _ _ hd
  · rw [ps_cb_c (Or.inr c2), ps_on, List.append_nil] at h
    exact h _ _ hd
  · have w : ¬ (how = 4 ∨ how = 5) := by omega
    rw [ps_cl (by omega), hc.2] at ey
    refine pk_eq how 1 (fun c3 => ⟨pk_in p 384 hp, fun y2 ey2 => ?_⟩) (fun c3 => pk_eq how 2 (fun c4 => ⟨pk_in q 384 hq, pk_in p 384 hp, fun y2 ey2 => ?_⟩) (fun c4 => ?_))
    · rw [ps_cl (by omega), hg.2] at ey2
      refine z w y2 ?_
      rw [ey2]; unfold ps_vv; rw [if_pos c3]
    · rw [ps_cl (i := q) (by omega), ps_cl (i := p) (by omega), hc.2, hg.2] at ey2
      refine z w y2 ?_
      rw [ey2]; unfold ps_vv; rw [if_neg c3, if_pos c4]
    · refine z w y ?_
      rw [ey]; unfold ps_vv; rw [if_neg c3, if_neg c4]
end
section
variable {kd sz it vl : Nat → Int32} {A B : List ps_E} {a b how most : Nat} {post : SX → Prop}
theorem ps_mg_nl (n : Nat) : ps_mg how n [] [] = [] := by
  cases n <;> rw [ps_mg]
theorem ps_xM (ha : a < 8) (hb : b < 8) (hh : how < 6) (hA : A.length ≤ 48) (hB : B.length ≤ 48) (hm : most ≤ 96) (ra : ps_row it vl (48 * a) A) (rb : ps_row it vl (48 * b) B) :
    ∀ (c i j n : Nat) (D : List ps_E) (di dv : Nat → Int32), n + c = most → i ≤ A.length → j ≤ B.length → (A.length - i) + (B.length - j) ≤ c → D.length + c < 500 → ps_dr 48 di dv D →
      (∀ di' dv', ps_dr 48 di' dv' (D ++ ps_mg how c (A.drop i) (B.drop j)) → post (nI (D ++ ps_mg how c (A.drop i) (B.drop j)).length, kd, sz, it, vl, di', dv')) →
      wX_draftMerged_62 post (nI how) (nI (48 * a + A.length)) (nI (48 * b + B.length)) (nI most) (c + 1) (nI (48 * a + i)) (nI (48 * b + j)) (nI n) (nI D.length) kd sz it vl di dv := by
  intro c
  induction c with
  | zero =>
    intro i j n D di dv e hi hj hl hD hd h
    rw [show ps_mg how 0 (A.drop i) (B.drop j) = [] by rw [ps_mg], List.append_nil] at h
    exact br_t (nI_le (by omega) (by omega)) (h _ _ hd)
  | succ c ih =>
    intro i j n D di dv e hi hj hl hD hd h
    have lo : ∀ (k : Int32) (z : Option Int32), (ps_o k z).length ≤ 1 := fun k z => by cases z <;> simp [ps_o]
    -- the three turns
    have tA : i < A.length → (∀ M, ps_mg how (c + 1) (A.drop i) (B.drop j) = ps_o (ps_at A i).1 (ps_cb how (some (ps_at A i).2) none) ++ M → M = ps_mg how c (A.drop (i + 1)) (B.drop j) → True) →
        ps_mg how (c + 1) (A.drop i) (B.drop j) = ps_o (ps_at A i).1 (ps_cb how (some (ps_at A i).2) none) ++ ps_mg how c (A.drop (i + 1)) (B.drop j) →
        wX_draftMerged_114 post (wX_draftMerged_62 post (nI how) (nI (48 * a + A.length)) (nI (48 * b + B.length)) (nI most) (c + 1)) (nI how) (nI (48 * a + A.length)) (nI (48 * b + B.length)) (nI most) (nI (48 * a + i)) (nI (48 * b + j)) (nI n) (nI D.length) kd sz it vl di dv := fun h1 _ q => by
      rw [q] at h
      unfold wX_draftMerged_114
      refine ps_xA hh (by omega) (ra i h1) hd (by omega) (fun di' dv' hd' => nm_r (nI_1 _) (nm_r (nI_1 _) ?_))
      have l := lo (ps_at A i).1 (ps_cb how (some (ps_at A i).2) none)
      refine ih (i + 1) j (n + 1) _ di' dv' (by omega) (by omega) hj (by omega) (by rw [List.length_append]; omega) hd' ?_
      rw [List.append_assoc]
      exact h
    have tB : j < B.length →
        ps_mg how (c + 1) (A.drop i) (B.drop j) = ps_o (ps_at B j).1 (ps_cb how none (some (ps_at B j).2)) ++ ps_mg how c (A.drop i) (B.drop (j + 1)) →
        wX_draftMerged_151 post (wX_draftMerged_62 post (nI how) (nI (48 * a + A.length)) (nI (48 * b + B.length)) (nI most) (c + 1)) (nI how) (nI (48 * a + A.length)) (nI (48 * b + B.length)) (nI most) (nI (48 * a + i)) (nI (48 * b + j)) (nI n) (nI D.length) kd sz it vl di dv := fun h1 q => by
      rw [q] at h
      unfold wX_draftMerged_151
      refine ps_xB hh (by omega) (rb j h1) hd (by omega) (fun di' dv' hd' => nm_r (nI_1 _) (nm_r (nI_1 _) ?_))
      have l := lo (ps_at B j).1 (ps_cb how none (some (ps_at B j).2))
      refine ih i (j + 1) (n + 1) _ di' dv' (by omega) hi (by omega) (by omega) (by rw [List.length_append]; omega) hd' ?_
      rw [List.append_assoc]
      exact h
    -- the head of the turn
    refine br_f (nI_ge (by omega) (by omega)) ?_
    by_cases hi2 : i < A.length
    · refine br_t (nI_lt (by omega) (by omega)) ?_
      have ea := ps_dr1 A i hi2
      unfold wX_draftMerged_83
      refine pk_eq (48 * b + j) (48 * b + B.length) (fun c1 => ?_) (fun c1 => br_f (nI_ge (by omega) (by omega)) ?_)
      · have eb : B.drop j = [] := List.drop_eq_nil_of_le (by omega)
        refine tA hi2 (fun _ _ _ => True.intro) ?_
        rw [ea, eb, ps_mg]
      · have hj2 : j < B.length := by omega
        have eb := ps_dr1 B j hj2
        have va := ra i hi2
        have vb := rb j hj2
        have i127 : ¬ (ps_at A i).1 < (ps_at B j).1 → wX_draftMerged_127 post (wX_draftMerged_62 post (nI how) (nI (48 * a + A.length)) (nI (48 * b + B.length)) (nI most) (c + 1)) (nI how) (nI (48 * a + A.length)) (nI (48 * b + B.length)) (nI most) (nI (48 * a + i)) (nI (48 * b + j)) (nI n) (nI D.length) kd sz it vl di dv := fun nl => by
          unfold wX_draftMerged_127
          refine pk_eq (48 * a + i) (48 * a + A.length) (fun c2 => absurd c2 (by omega)) (fun c2 => ⟨pk_in (48 * b + j) 384 (by omega), pk_in (48 * a + i) 384 (by omega), ?_⟩)
          rw [ps_cl (i := 48 * a + i) (by omega), ps_cl (i := 48 * b + j) (by omega), va.1, vb.1]
          refine br_c (fun q => ?_) (fun q => ?_)
          · have nl2 : ¬ (ps_at B j).1 < (ps_at A i).1 := Int32.not_lt.mpr q
            have m : ps_mg how (c + 1) (A.drop i) (B.drop j) = ps_o (ps_at A i).1 (ps_cb how (some (ps_at A i).2) (some (ps_at B j).2)) ++ ps_mg how c (A.drop (i + 1)) (B.drop (j + 1)) := by
              rw [ea, eb, ps_mg, if_neg nl, if_neg nl2]
            rw [m] at h
            refine ps_xC hh (by omega) (by omega) va vb hd (by omega) (fun di' dv' hd' => nm_r (nI_1 _) (nm_r (nI_1 _) (nm_r (nI_1 _) ?_)))
            have l := lo (ps_at A i).1 (ps_cb how (some (ps_at A i).2) (some (ps_at B j).2))
            refine ih (i + 1) (j + 1) (n + 1) _ di' dv' (by omega) (by omega) (by omega) (by omega) (by rw [List.length_append]; omega) hd' ?_
            rw [List.append_assoc]
            exact h
          · have lt := Int32.not_le.mp q
            refine tB hj2 ?_
            rw [ea, eb, ps_mg, if_neg nl, if_pos lt]
        refine ⟨pk_in (48 * a + i) 384 (by omega), pk_in (48 * b + j) 384 (by omega), ?_⟩
        rw [ps_cl (i := 48 * a + i) (by omega), ps_cl (i := 48 * b + j) (by omega), va.1, vb.1]
        refine br_c (fun q => i127 (Int32.not_lt.mpr q)) (fun q => ?_)
        refine tA hi2 (fun _ _ _ => True.intro) ?_
        rw [ea, eb, ps_mg, if_pos (Int32.not_le.mp q)]
    · refine br_f (nI_nlt (by omega) (by omega)) ?_
      have ea : A.drop i = [] := List.drop_eq_nil_of_le (by omega)
      refine pk_le (48 * b + B.length) (48 * b + j) (fun c1 => ?_) (fun c1 => ?_)
      · have eb : B.drop j = [] := List.drop_eq_nil_of_le (by omega)
        rw [ea, eb, ps_mg_nl, List.append_nil] at h
        exact h _ _ hd
      · have hj2 : j < B.length := by omega
        have eb := ps_dr1 B j hj2
        unfold wX_draftMerged_83
        refine pk_eq (48 * b + j) (48 * b + B.length) (fun c2 => absurd c2 (by omega)) (fun c2 => br_t (nI_le (by omega) (by omega)) ?_)
        unfold wX_draftMerged_127
        refine pk_eq (48 * a + i) (48 * a + A.length) (fun c3 => tB hj2 ?_) (fun c3 => absurd c3 (by omega))
        rw [ea, eb, ps_mg]
end
section
variable {kd sz it vl di dv : Nat → Int32} {ds : Int32} {L : Nat → List ps_E} {a b t how : Nat} {post : Int32 → SX → Prop}
theorem ps_xmerge (hK : ps_K kd sz L) (hR : ps_R 48 it vl L) (ha : a < 8) (hb : b < 8) (ht : t < 8) (hh : how < 6) (h1 : kd a = 1) (h2 : kd b = 1)
    (hlen : (ps_mg how ((L a).length + (L b).length) (L a) (L b)).length < 1000)
    (h : ∀ r u', ps_out ps_X kd sz L 1 24 t (ps_mg how ((L a).length + (L b).length) (L a) (L b)) r u' → post r u') :
    wpX_merge post (ds, kd, sz, it, vl, di, dv) (nI a) (nI b) (nI how) (nI t) := by
  have hza := (hK a ha).1
  have hzb := (hK b hb).1
  have hLa := ps_K_le hK a ha
  have hLb := ps_K_le hK b hb
  unfold wpX_merge
  refine ps_xP1 ha (br_f ps_10 (ps_xP1 hb (br_f ps_10 (ps_xP1 ht (br_f ps_10 (br_f (nI_pos (by omega)) (br_t (nI_le (b := 5) (by omega) (by decide)) ⟨ps_in8 ha, ?_⟩)))))))
  rw [ps_cl8 ha, ps_cl8 hb]
  refine br_t h1 ⟨ps_in8 hb, br_t h2 (ps_xS ?_)⟩
  unfold wpX_draftMerged
  refine ps_xR ⟨ps_in8 ha, ?_⟩
  rw [ps_cl8 ha, ps_cl8 hb, hza, hzb]
  refine nm_r (nI_add _ _) (ps_xR ⟨ps_in8 hb, nm_r (nI_add _ _) ⟨ps_in8 ha, ps_in8 hb, nm_r (nI_add _ _) ⟨(L a).length + (L b).length + 1, ?_⟩⟩⟩)
  refine ps_xM (A := L a) (B := L b) ha hb hh hLa hLb (by omega) (hR a ha) (hR b hb) ((L a).length + (L b).length) 0 0 0 [] di dv (Nat.zero_add _) (Nat.zero_le _) (Nat.zero_le _) (by omega) (by simp; omega) ps_dr_n (fun di' dv' hd => ?_)
  rw [List.nil_append, List.drop_zero, List.drop_zero] at hd ⊢
  exact ps_xV (Or.inl ⟨rfl, rfl⟩) ht hR (ps_K_le hK) hd hlen (fun r u' o => by obtain ⟨_, _, _, _, _, _, _⟩ := u'; exact h _ _ o)
end
end
section
section
variable {kd sz a b x y : Nat → Int32} {n : Int32} {L : Nat → List ps_E} {f t : Nat} {post : Int32 → SY → Prop}
theorem ps_ymake {kind : Int32} (hK : ps_K kd sz L) (hR : ps_R 50 a b L) (ht : t < 8) (h0 : ¬ kind < 0) (h2 : kind ≤ 2)
    (h : ∀ r u', ps_out ps_Y kd sz L kind (if kind = 1 then 24 else 48) t [] r u' → post r u') : wpY_make post (n, kd, sz, a, b, x, y) (nI t) kind := by
  unfold wpY_make
  refine ps_yP1 ht (br_f ps_10 (br_f h0 (br_t h2 ⟨ps_in8 ht, fun y' ey => ⟨ps_in8 ht, fun z ez => ?_⟩⟩)))
  rw [ps_cl8 ht] at ey ez
  subst ey ez
  exact h _ _ (Or.inl ⟨Nat.zero_le _, rfl, _, _, _, _, _, rfl, ps_R_up hR (fun p hp => Nat.le_trans (ps_K_le hK p hp) (by decide)) (Nat.zero_le _) ps_wr_0⟩)
theorem ps_ycopy (hK : ps_K kd sz L) (hR : ps_R 50 a b L) (hf : f < 8) (ht : t < 8) (h0 : ¬ kd f = 0)
    (h : ∀ r u', ps_out ps_Y kd sz L (kd f) (if kd f = 1 then 24 else 48) t (L f) r u' → post r u') : wpY_copy post (n, kd, sz, a, b, x, y) (nI f) (nI t) := by
  have hL := ps_K_le hK f hf
  unfold wpY_copy
  refine ps_yP1 hf (br_f ps_10 (ps_yP1 ht (br_f ps_10 ⟨ps_in8 hf, ?_⟩)))
  rw [ps_cl8 hf]
  refine br_f h0 (ps_yT hf (hK f hf).1 (hR f hf) hL (fun x' y' hd => ⟨ps_in8 hf, ?_⟩))
  exact ps_yV (ps_hc _) ht hR (ps_K_le hK) hd (by omega) (fun r u' o => by obtain ⟨_, _, _, _, _, _, _⟩ := u'; exact h _ _ o)
theorem ps_yput {k v : Int32} (hK : ps_K kd sz L) (hR : ps_R 50 a b L) (hf : f < 8) (ht : t < 8) (h1 : kd f = 1)
    (h : ∀ r u', ps_out ps_Y kd sz L 1 24 t (ps_ins k v (L f)) r u' → post r u') : wpY_put post (n, kd, sz, a, b, x, y) (nI f) k v (nI t) := by
  have hL := ps_K_le hK f hf
  have l := ps_ins_len k v (L f)
  unfold wpY_put
  refine ps_yP1 hf (br_f ps_10 (ps_yP1 ht (br_f ps_10 ⟨ps_in8 hf, ?_⟩)))
  rw [ps_cl8 hf]
  refine br_t h1 (ps_yT hf (hK f hf).1 (hR f hf) hL (fun x' y' hd => ?_))
  refine ps_yS hd (by omega) (fun x2 y2 hd2 => ?_)
  exact ps_yV (Or.inl ⟨rfl, rfl⟩) ht hR (ps_K_le hK) hd2 (by omega) (fun r u' o => by obtain ⟨_, _, _, _, _, _, _⟩ := u'; exact h _ _ o)
theorem ps_fo_tk (phi : Int32 → Int32 → Option Int32) (D M : List ps_E) (i : Nat) : (ps_fo phi D (M.take i)).length ≤ D.length + i := by
  have h := ps_fo_len phi (M.take i) D
  have g := List.length_take_le i M
  omega
theorem ps_yrl {k : Int32} (hK : ps_K kd sz L) (hR : ps_R 50 a b L) (hf : f < 8) (ht : t < 8)
    (h : ∀ r u', ps_out ps_Y kd sz L 1 24 t (ps_fo (ps_prm k) [] (L f)) r u' → post r u') :
    ∀ (c s : Nat), s + c = (L f).length → ∀ x y, ps_dr 100 x y (ps_fo (ps_prm k) [] ((L f).take s)) →
      wY_remove_37 post (nI f) k (nI t) (c + 1) (nI s) (nI (ps_fo (ps_prm k) [] ((L f).take s)).length) kd sz a b x y := by
  have hL := ps_K_le hK f hf
  have hz := (hK f hf).1
  intro c
  induction c with
  | zero =>
    intro s e x y hd
    have q : s = (L f).length := by omega
    have l := ps_fo_tk (ps_prm k) [] (L f) s
    rw [List.length_nil] at l
    refine ⟨ps_in8 hf, ?_⟩
    rw [ps_cl8 hf, hz]
    refine br_t (nI_le (by omega) (by omega)) ?_
    have tk : (L f).take s = L f := List.take_of_length_le (by omega)
    rw [tk] at hd l ⊢
    exact ps_yV (Or.inl ⟨rfl, rfl⟩) ht hR (ps_K_le hK) hd (by omega) (fun r u' o => by obtain ⟨_, _, _, _, _, _, _⟩ := u'; exact h _ _ o)
  | succ c ih =>
    intro s e x y hd
    have i1 : s < 50 := by omega
    have i2 : s < (L f).length := by omega
    have r := hR f hf s i2
    have l := ps_fo_tk (ps_prm k) [] (L f) s
    rw [List.length_nil] at l
    have st := ps_fo_1 (ps_prm k) [] (L f) s i2
    refine ⟨ps_in8 hf, ?_⟩
    rw [ps_cl8 hf, hz]
    refine br_f (nI_ge (by omega) (by omega)) ⟨ps_inY hf i1, ?_⟩
    rw [ps_clY hf i1, r.1, r.2]
    refine br_c (fun q => nm_r (nI_1 s) ?_) (fun q => ⟨ps_inY hf i1, ps_inY hf i1, ?_⟩)
    · rw [ps_st_n (by unfold ps_prm; exact if_pos q)] at st
      have w := ih (s + 1) (by omega) x y
      rw [st] at w
      exact w hd
    · rw [ps_st_s (z := (ps_at (L f) s).2) (by unfold ps_prm; exact if_neg q)] at st
      refine ps_yS hd (by omega) (fun x' y' hd' => nm_r (nI_1 s) ?_)
      have w := ih (s + 1) (by omega) x' y'
      rw [st] at w
      exact w hd'
theorem ps_yrem {k : Int32} (hK : ps_K kd sz L) (hR : ps_R 50 a b L) (hf : f < 8) (ht : t < 8) (h1 : kd f = 1)
    (h : ∀ r u', ps_out ps_Y kd sz L 1 24 t (ps_rm k (L f)) r u' → post r u') : wpY_remove post (n, kd, sz, a, b, x, y) (nI f) k (nI t) := by
  unfold wpY_remove
  refine ps_yP1 hf (br_f ps_10 (ps_yP1 ht (br_f ps_10 ⟨ps_in8 hf, ?_⟩)))
  rw [ps_cl8 hf]
  rw [← ps_rm_fo k (L f) (ps_kok_1 (hK f hf).2 h1).2] at h
  exact br_t h1 ⟨(L f).length + 1, ps_yrl hK hR hf ht h (L f).length 0 (Nat.zero_add _) x y ps_dr_n⟩
theorem ps_fi_l (M : List ps_E) (i : Nat) (v : Int32) (k : Nat) : (ps_aq [] (ps_fi M i v) k).length ≤ k * 2 := by
  have h := ps_aq_len [] (ps_fi M i v) 2 k (fun j _ => ps_fi_len M i v j)
  rw [List.length_nil] at h
  omega
theorem ps_yil {i : Nat} {v : Int32} (hK : ps_K kd sz L) (hR : ps_R 50 a b L) (hf : f < 8) (ht : t < 8) (h2 : kd f = 2) (hi : i ≤ (L f).length)
    (hl : ∀ k, k ≤ (L f).length + 1 → (ps_aq [] (ps_fi (L f) i v) k).length ≤ k + 1)
    (h : ∀ r u', ps_out ps_Y kd sz L 2 48 t (ps_aq [] (ps_fi (L f) i v) ((L f).length + 1)) r u' → post r u') :
    ∀ (c s : Nat), s + c = (L f).length + 1 → ∀ x y, ps_dr 100 x y (ps_aq [] (ps_fi (L f) i v) s) →
      wY_insert_55 post (nI f) (nI i) v (nI t) (c + 1) (nI s) (nI (ps_aq [] (ps_fi (L f) i v) s).length) kd sz a b x y := by
  have hL := ps_K_le hK f hf
  have hz := (hK f hf).1
  have hzz := (ps_kok_2 (hK f hf).2 h2).2
  intro c
  induction c with
  | zero =>
    intro s e x y hd
    have q : s = (L f).length + 1 := by omega
    subst q
    have l := hl ((L f).length + 1) (Nat.le_refl _)
    refine ⟨ps_in8 hf, ?_⟩
    rw [ps_cl8 hf, hz]
    exact br_t (nI_lt (by omega) (by omega)) (ps_yV (Or.inr ⟨by decide, rfl⟩) ht hR (ps_K_le hK) hd (by omega) (fun r u' o => by obtain ⟨_, _, _, _, _, _, _⟩ := u'; exact h _ _ o))
  | succ c ih =>
    intro s e x y hd
    have i1 : s < 50 := by omega
    have l := hl s (by omega)
    -- what follows the first half of the turn
    have half : ∀ (D : List ps_E) (x y : Nat → Int32), D.length < 99 → ps_dr 100 x y D → ps_aq [] (ps_fi (L f) i v) (s + 1) = D ++ (if s < (L f).length then [ps_at (L f) s] else []) →
        wY_insert_77 post (wY_insert_55 post (nI f) (nI i) v (nI t) (c + 1)) (nI f) (nI i) v (nI t) (nI s) (nI D.length) kd sz a b x y := fun D x y hD hd q => by
      have w := ih (s + 1) (by omega)
      rw [q] at w
      refine ⟨ps_in8 hf, ?_⟩
      rw [ps_cl8 hf, hz]
      refine pk_le (L f).length s (fun c1 => nm_r (nI_1 s) ?_) (fun c1 => ⟨ps_inY hf i1, ?_⟩)
      · rw [if_neg (by omega), List.append_nil] at w
        exact w x y hd
      · rw [ps_clY hf i1, (hR f hf s c1).1]
        rw [if_pos c1] at w
        refine ps_yA hd (by omega) (fun x' y' hd' => nm_r (nI_1 s) ?_)
        rw [ps_z_pr hzz] at hd' ⊢
        exact w x' y' hd'
    refine ⟨ps_in8 hf, ?_⟩
    rw [ps_cl8 hf, hz]
    refine br_f (nI_nlt (by omega) (by omega)) (pk_eq s i (fun c1 => ?_) (fun c1 => ?_))
    · refine ps_yA hd (by omega) (fun x' y' hd' => ?_)
      refine half _ x' y' (by rw [ps_len1]; omega) hd' ?_
      show ps_aq [] (ps_fi (L f) i v) s ++ ((if s = i then [(v, 0)] else []) ++ (if s < (L f).length then [ps_at (L f) s] else [])) = _
      rw [if_pos c1, List.append_assoc]
    · refine half _ x y (by omega) hd ?_
      show ps_aq [] (ps_fi (L f) i v) s ++ ((if s = i then [(v, 0)] else []) ++ (if s < (L f).length then [ps_at (L f) s] else [])) = _
      rw [if_neg c1, List.nil_append]
theorem ps_fi_k (M : List ps_E) (i : Nat) (v : Int32) : ∀ k, (ps_aq [] (ps_fi M i v) k).length ≤ k + (if i < k then 1 else 0)
  | 0 => Nat.zero_le _
  | k + 1 => by
    have h := ps_fi_k M i v k
    show (ps_aq [] (ps_fi M i v) k ++ ((if k = i then [(v, 0)] else []) ++ (if k < M.length then [ps_at M k] else []))).length ≤ _
    rw [List.length_append, List.length_append]
    have h3 : (if k < M.length then [ps_at M k] else []).length ≤ 1 := by split <;> simp
    by_cases c : k = i
    · rw [if_pos c, List.length_singleton, if_pos (show i < k + 1 by omega)]
      rw [if_neg (show ¬ i < k by omega)] at h
      omega
    · rw [if_neg c, List.length_nil]
      by_cases d : i < k
      · rw [if_pos d] at h
        rw [if_pos (show i < k + 1 by omega)]
        omega
      · rw [if_neg d] at h
        rw [if_neg (show ¬ i < k + 1 by omega)]
        omega
theorem ps_yins {i : Nat} {v : Int32} (hK : ps_K kd sz L) (hR : ps_R 50 a b L) (hf : f < 8) (ht : t < 8) (h2 : kd f = 2) (hi : i ≤ (L f).length)
    (h : ∀ r u', ps_out ps_Y kd sz L 2 48 t (ps_aq [] (ps_fi (L f) i v) ((L f).length + 1)) r u' → post r u') : wpY_insert post (n, kd, sz, a, b, x, y) (nI f) (nI i) v (nI t) := by
  have hL := ps_K_le hK f hf
  have hz := (hK f hf).1
  unfold wpY_insert
  refine ps_yP1 hf (br_f ps_10 (ps_yP1 ht (br_f ps_10 ⟨ps_in8 hf, ?_⟩)))
  rw [ps_cl8 hf]
  refine br_t h2 (br_f (nI_pos (by omega)) ⟨ps_in8 hf, ?_⟩)
  rw [hz]
  refine br_t (nI_le hi (by omega)) ⟨(L f).length + 2, ps_yil hK hR hf ht h2 hi (fun k _ => ?_) h ((L f).length + 1) 0 (Nat.zero_add _) x y ps_dr_n⟩
  have q := ps_fi_k (L f) i v k
  split at q <;> omega
theorem ps_fs_l (M : List ps_E) (i j : Nat) (bb : Bool) (k : Nat) : (ps_aq [] (ps_fs M i j bb) k).length ≤ k := by
  have h := ps_aq_len [] (ps_fs M i j bb) 1 k (fun q _ => ps_fs_len M i j bb q)
  rw [List.length_nil] at h
  omega
theorem ps_ysl {i j : Nat} {bb : Bool} (hK : ps_K kd sz L) (hR : ps_R 50 a b L) (hf : f < 8) (ht : t < 8) (h2 : kd f = 2) (hj : j ≤ (L f).length) (hi : i ≤ j)
    (h : ∀ r u', ps_out ps_Y kd sz L 2 48 t (ps_aq [] (ps_fs (L f) i j bb) (L f).length) r u' → post r u') :
    ∀ (c s : Nat), s + c = (L f).length → ∀ x y, ps_dr 100 x y (ps_aq [] (ps_fs (L f) i j bb) s) →
      wY_some_60 post (nI f) (nI i) (nI j) (nI t) (if bb = true then 1 else 0) (c + 1) (nI s) (nI (ps_aq [] (ps_fs (L f) i j bb) s).length) kd sz a b x y := by
  have hL := ps_K_le hK f hf
  have hz := (hK f hf).1
  have hzz := (ps_kok_2 (hK f hf).2 h2).2
  intro c
  induction c with
  | zero =>
    intro s e x y hd
    have q : s = (L f).length := by omega
    subst q
    have l := ps_fs_l (L f) i j bb (L f).length
    refine ⟨ps_in8 hf, ?_⟩
    rw [ps_cl8 hf, hz]
    exact br_t (nI_le (by omega) (by omega)) (ps_yV (Or.inr ⟨by decide, rfl⟩) ht hR (ps_K_le hK) hd (by omega) (fun r u' o => by obtain ⟨_, _, _, _, _, _, _⟩ := u'; exact h _ _ o))
  | succ c ih =>
    intro s e x y hd
    have i1 : s < 50 := by omega
    have l := ps_fs_l (L f) i j bb s
    have st : ps_aq [] (ps_fs (L f) i j bb) (s + 1) = ps_aq [] (ps_fs (L f) i j bb) s ++ ps_fs (L f) i j bb s := rfl
    have w := ih (s + 1) (by omega)
    have yes : decide (i ≤ s ∧ s < j) = bb → ∀ z : Int32, z = (if bb = true then 1 else 0) → wY_some_88 post (wY_some_60 post (nI f) (nI i) (nI j) (nI t) (if bb = true then 1 else 0) (c + 1)) (nI f) (nI i) (nI j) (nI t) (if bb = true then 1 else 0) (nI s) z (nI (ps_aq [] (ps_fs (L f) i j bb) s).length) kd sz a b x y := fun q z ez => by
      rw [st, ps_fs_y q] at w
      refine br_t ez ⟨ps_inY hf i1, ?_⟩
      rw [ps_clY hf i1, (hR f hf s (by omega)).1]
      refine ps_yA hd (by omega) (fun x' y' hd' => nm_r (nI_1 s) ?_)
      rw [ps_z_pr hzz] at hd' ⊢
      exact w x' y' hd'
    have nay : ¬ decide (i ≤ s ∧ s < j) = bb → ∀ z : Int32, ¬ z = (if bb = true then 1 else 0) → wY_some_88 post (wY_some_60 post (nI f) (nI i) (nI j) (nI t) (if bb = true then 1 else 0) (c + 1)) (nI f) (nI i) (nI j) (nI t) (if bb = true then 1 else 0) (nI s) z (nI (ps_aq [] (ps_fs (L f) i j bb) s).length) kd sz a b x y := fun q z ez => by
      rw [st, ps_fs_n q, List.append_nil] at w
      exact br_f ez (nm_r (nI_1 s) (w x y hd))
    have out : ¬ (i ≤ s ∧ s < j) → wY_some_88 post (wY_some_60 post (nI f) (nI i) (nI j) (nI t) (if bb = true then 1 else 0) (c + 1)) (nI f) (nI i) (nI j) (nI t) (if bb = true then 1 else 0) (nI s) 0 (nI (ps_aq [] (ps_fs (L f) i j bb) s).length) kd sz a b x y := fun q => by
      cases hb : bb with
      | true => rw [hb] at yes nay; exact nay (by rw [decide_eq_true_eq]; exact q) 0 (by decide)
      | false => rw [hb] at yes nay; exact yes (by rw [decide_eq_false_iff_not]; exact q) 0 (by decide)
    refine ⟨ps_in8 hf, ?_⟩
    rw [ps_cl8 hf, hz]
    refine br_f (nI_ge (by omega) (by omega)) (pk_lt s i (fun c1 => out (by omega)) (fun c1 => pk_le j s (fun c2 => out (by omega)) (fun c2 => ?_)))
    cases hb : bb with
    | true => rw [hb] at yes nay; exact yes (by rw [decide_eq_true_eq]; omega) 1 (by decide)
    | false => rw [hb] at yes nay; exact nay (by rw [decide_eq_false_iff_not]; omega) 1 (by decide)
theorem ps_ysome {i j : Nat} (bb : Bool) (hK : ps_K kd sz L) (hR : ps_R 50 a b L) (hf : f < 8) (ht : t < 8) (h2 : kd f = 2) (hj : j ≤ (L f).length) (hi : i ≤ j)
    (h : ∀ r u', ps_out ps_Y kd sz L 2 48 t (ps_aq [] (ps_fs (L f) i j bb) (L f).length) r u' → post r u') :
    wpY_some post (n, kd, sz, a, b, x, y) (nI f) (nI i) (nI j) (nI t) (if bb = true then 1 else 0) := by
  have hL := ps_K_le hK f hf
  have hz := (hK f hf).1
  unfold wpY_some
  refine ps_yP1 hf (br_f ps_10 (ps_yP1 ht (br_f ps_10 ⟨ps_in8 hf, ?_⟩)))
  rw [ps_cl8 hf]
  refine br_t h2 (br_f (nI_pos (by omega)) (br_f (nI_nlt hi (by omega)) ⟨ps_in8 hf, ?_⟩))
  rw [hz]
  exact br_t (nI_le hj (by omega)) ⟨(L f).length + 1, ps_ysl hK hR hf ht h2 hj hi h (L f).length 0 (Nat.zero_add _) x y ps_dr_n⟩
theorem ps_yj2 {g : Nat} {D : List ps_E} (hK : ps_K kd sz L) (hR : ps_R 50 a b L) (hg : g < 8) (ht : t < 8) (h2 : kd g = 2) (hD : D.length ≤ 48)
    (h : ∀ r u', ps_out ps_Y kd sz L 2 48 t (ps_aq D (ps_g (L g) 0) (L g).length) r u' → post r u') :
    ∀ (c s : Nat), s + c = (L g).length → ∀ x y, ps_dr 100 x y (ps_aq D (ps_g (L g) 0) s) →
      wY_join_90 post (nI g) (nI t) (c + 1) (nI s) (nI (ps_aq D (ps_g (L g) 0) s).length) kd sz a b x y := by
  have hL := ps_K_le hK g hg
  have hz := (hK g hg).1
  have hzz := (ps_kok_2 (hK g hg).2 h2).2
  intro c
  induction c with
  | zero =>
    intro s e x y hd
    have q : s = (L g).length := by omega
    subst q
    have l := ps_aq_g D (L g) 0 (L g).length
    refine ⟨ps_in8 hg, ?_⟩
    rw [ps_cl8 hg, hz]
    exact br_t (nI_le (by omega) (by omega)) (ps_yV (Or.inr ⟨by decide, rfl⟩) ht hR (ps_K_le hK) hd (by omega) (fun r u' o => by obtain ⟨_, _, _, _, _, _, _⟩ := u'; exact h _ _ o))
  | succ c ih =>
    intro s e x y hd
    have i1 : s < 50 := by omega
    have l := ps_aq_g D (L g) 0 s
    have w := ih (s + 1) (by omega)
    have st : ps_aq D (ps_g (L g) 0) (s + 1) = ps_aq D (ps_g (L g) 0) s ++ [ps_at (L g) s] := by
      show ps_aq D (ps_g (L g) 0) s ++ [ps_at (L g) (0 + s)] = _
      rw [Nat.zero_add]
    rw [st] at w
    refine ⟨ps_in8 hg, ?_⟩
    rw [ps_cl8 hg, hz]
    refine br_f (nI_ge (by omega) (by omega)) ⟨ps_inY hg i1, ?_⟩
    rw [ps_clY hg i1, (hR g hg s (by omega)).1]
    refine ps_yA hd (by omega) (fun x' y' hd' => nm_r (nI_1 s) ?_)
    rw [ps_z_pr hzz] at hd' ⊢
    exact w x' y' hd'
theorem ps_yj1 {g : Nat} (hK : ps_K kd sz L) (hR : ps_R 50 a b L) (hf : f < 8) (hg : g < 8) (ht : t < 8) (h2 : kd f = 2) (h3 : kd g = 2)
    (h : ∀ r u', ps_out ps_Y kd sz L 2 48 t (ps_aq (ps_aq [] (ps_g (L f) 0) (L f).length) (ps_g (L g) 0) (L g).length) r u' → post r u') :
    ∀ (c s : Nat), s + c = (L f).length → ∀ x y, ps_dr 100 x y (ps_aq [] (ps_g (L f) 0) s) →
      wY_join_54 post (nI f) (nI g) (nI t) (c + 1) (nI s) (nI (ps_aq [] (ps_g (L f) 0) s).length) kd sz a b x y := by
  have hL := ps_K_le hK f hf
  have hz := (hK f hf).1
  have hzz := (ps_kok_2 (hK f hf).2 h2).2
  intro c
  induction c with
  | zero =>
    intro s e x y hd
    have q : s = (L f).length := by omega
    subst q
    have l := ps_aq_g [] (L f) 0 (L f).length
    rw [List.length_nil] at l
    refine ⟨ps_in8 hf, ?_⟩
    rw [ps_cl8 hf, hz]
    exact br_t (nI_le (by omega) (by omega)) ⟨(L g).length + 1, ps_yj2 hK hR hg ht h3 (by omega) h (L g).length 0 (Nat.zero_add _) x y hd⟩
  | succ c ih =>
    intro s e x y hd
    have i1 : s < 50 := by omega
    have l := ps_aq_g [] (L f) 0 s
    rw [List.length_nil] at l
    have w := ih (s + 1) (by omega)
    have st : ps_aq [] (ps_g (L f) 0) (s + 1) = ps_aq [] (ps_g (L f) 0) s ++ [ps_at (L f) s] := by
      show ps_aq [] (ps_g (L f) 0) s ++ [ps_at (L f) (0 + s)] = _
      rw [Nat.zero_add]
    rw [st] at w
    refine ⟨ps_in8 hf, ?_⟩
    rw [ps_cl8 hf, hz]
    refine br_f (nI_ge (by omega) (by omega)) ⟨ps_inY hf i1, ?_⟩
    rw [ps_clY hf i1, (hR f hf s (by omega)).1]
    refine ps_yA hd (by omega) (fun x' y' hd' => nm_r (nI_1 s) ?_)
    rw [ps_z_pr hzz] at hd' ⊢
    exact w x' y' hd'
theorem ps_yjoin {g : Nat} (hK : ps_K kd sz L) (hR : ps_R 50 a b L) (hf : f < 8) (hg : g < 8) (ht : t < 8) (h2 : kd f = 2) (h3 : kd g = 2)
    (h : ∀ r u', ps_out ps_Y kd sz L 2 48 t (ps_aq (ps_aq [] (ps_g (L f) 0) (L f).length) (ps_g (L g) 0) (L g).length) r u' → post r u') :
    wpY_join post (n, kd, sz, a, b, x, y) (nI f) (nI g) (nI t) := by
  unfold wpY_join
  refine ps_yP1 hf (br_f ps_10 (ps_yP1 hg (br_f ps_10 (ps_yP1 ht (br_f ps_10 ⟨ps_in8 hf, ?_⟩)))))
  rw [ps_cl8 hf, ps_cl8 hg]
  exact br_t h2 ⟨ps_in8 hg, br_t h3 ⟨(L f).length + 1, ps_yj1 hK hR hf hg ht h2 h3 h (L f).length 0 (Nat.zero_add _) x y ps_dr_n⟩⟩
theorem ps_ytl (hK : ps_K kd sz L) (hR : ps_R 50 a b L) (hf : f < 8) (ht : t < 8) (h2 : kd f = 2)
    (h : ∀ r u', ps_out ps_Y kd sz L 2 48 t (ps_aq [] (ps_ft (L f)) (L f).length) r u' → post r u') :
    ∀ c, c ≤ (L f).length → ∀ x y, ps_dr 100 x y (ps_aq [] (ps_ft (L f)) ((L f).length - c)) → wY_turn_43 post (nI f) (nI t) (c + 1) (nI c - 1) (nI (ps_aq [] (ps_ft (L f)) ((L f).length - c)).length) kd sz a b x y := by
  have hL := ps_K_le hK f hf
  have hzz := (ps_kok_2 (hK f hf).2 h2).2
  intro c
  induction c with
  | zero =>
    intro _ x y hd
    have l := ps_ft_len (L f) (L f).length
    exact br_t (by decide) (ps_yV (Or.inr ⟨by decide, rfl⟩) ht hR (ps_K_le hK) hd (by rw [Nat.sub_zero]; omega) (fun r u' o => by obtain ⟨_, _, _, _, _, _, _⟩ := u'; exact h _ _ o))
  | succ c ih =>
    intro hc x y hd
    have l := ps_ft_len (L f) ((L f).length - (c + 1))
    have r := hR f hf c (by omega)
    have z2 : nI c + (-1) = nI c - 1 := (Int32.sub_eq_add_neg _ _).symm
    rw [nI_pred]
    refine br_f (nI_pos (by omega)) ⟨ps_inY hf (by omega), ?_⟩
    rw [ps_clY hf (by omega), r.1]
    refine ps_yA hd (by omega) (fun x' y' hd' => nm_r z2 ?_)
    rw [ps_z_pr hzz, ps_ft_1 (L f) c (by omega)] at hd' ⊢
    exact ih (by omega) x' y' hd'
theorem ps_yturn (hK : ps_K kd sz L) (hR : ps_R 50 a b L) (hf : f < 8) (ht : t < 8) (h2 : kd f = 2)
    (h : ∀ r u', ps_out ps_Y kd sz L 2 48 t (ps_aq [] (ps_ft (L f)) (L f).length) r u' → post r u') :
    wpY_turn post (n, kd, sz, a, b, x, y) (nI f) (nI t) := by
  have hz := (hK f hf).1
  unfold wpY_turn
  refine ps_yP1 hf (br_f ps_10 (ps_yP1 ht (br_f ps_10 ⟨ps_in8 hf, ?_⟩)))
  rw [ps_cl8 hf]
  refine br_t h2 ⟨ps_in8 hf, ?_⟩
  rw [hz]
  refine nm_e ⟨(L f).length + 1, ?_⟩
  have w := ps_ytl hK hR hf ht h2 h (L f).length (Nat.le_refl _) x y
  rw [Nat.sub_self] at w
  exact w ps_dr_n
end
end
section
theorem ps_n1 : ¬ (0 : Int32) ≤ -1 := by decide
theorem ps_n1' : (-1 : Int32) < 0 := by decide
section
variable {kd sz a b x y : Nat → Int32} {n : Int32} {L : Nat → List ps_E} {f t : Nat} {post : Int32 → Prop}
theorem ps_yval {k : Int32} (hK : ps_K kd sz L) (hR : ps_R 50 a b L) (hf : f < 8) (h1 : kd f = 1) (h : post ((ps_get k (L f)).getD 0)) : wpY_value post (n, kd, sz, a, b, x, y) (nI f) k := by
  have hz := (hK f hf).1
  have hL := ps_K_le hK f hf
  unfold wpY_value
  refine ps_yO hf (fun _ => br_f ps_10 ?_) (fun q => absurd h1 q)
  refine ps_yF hf hz (hR f hf) hL (fun i hi g => ?_) (fun g => ?_)
  · refine br_t (nI_pos' (by omega)) ⟨ps_inY hf (by omega), ?_⟩
    rw [ps_clY hf (by omega), (hR f hf i hi).2]
    rw [g] at h
    exact h
  · rw [g] at h
    exact br_f ps_n1 h
theorem ps_yval_k {k : Int32} (hf : f < 8) (h1 : ¬ kd f = 1) (h : post 0) : wpY_value post (n, kd, sz, a, b, x, y) (nI f) k := by
  unfold wpY_value
  exact ps_yO hf (fun q => absurd q h1) (fun _ => br_t rfl (br_f ps_n1 h))
theorem ps_yval_p {k z : Int32} (hx : ¬ ∃ p, p < 8 ∧ z = nI p) (h : post 0) : wpY_value post (n, kd, sz, a, b, x, y) z k := by
  unfold wpY_value
  exact ps_yO0 hx (br_t rfl (br_f ps_n1 h))
theorem ps_ykey {j : Nat} (hK : ps_K kd sz L) (hR : ps_R 50 a b L) (hf : f < 8) (hk : kd f = 1) (hj : j < 2 ^ 31) (hy : j < (L f).length → post (ps_at (L f) j).1) (hn : ¬ j < (L f).length → post 0) :
    wpY_key post (n, kd, sz, a, b, x, y) (nI f) (nI j) := by
  have hz := (hK f hf).1
  have hL := ps_K_le hK f hf
  unfold wpY_key
  refine ps_yO hf (fun _ => br_f ps_10 (br_f (nI_pos hj) ⟨ps_in8 hf, ?_⟩)) (fun q => absurd hk q)
  rw [ps_cl8 hf, hz]
  refine pk_le (L f).length j (fun c => hn (by omega)) (fun c => ⟨ps_inY hf (by omega), ?_⟩)
  rw [ps_clY hf (by omega), (hR f hf j c).1]
  exact hy c
theorem ps_ykey_k {i : Int32} (hf : f < 8) (hk : ¬ kd f = 1) (h : post 0) : wpY_key post (n, kd, sz, a, b, x, y) (nI f) i := by
  unfold wpY_key
  exact ps_yO hf (fun q => absurd q hk) (fun _ => br_t rfl h)
theorem ps_ykey_p {i z : Int32} (hx : ¬ ∃ p, p < 8 ∧ z = nI p) (h : post 0) : wpY_key post (n, kd, sz, a, b, x, y) z i := by
  unfold wpY_key
  exact ps_yO0 hx (br_t rfl h)
theorem ps_ykey_n {i : Int32} (hf : f < 8) (hk : kd f = 1) (hi : i < 0) (h : post 0) : wpY_key post (n, kd, sz, a, b, x, y) (nI f) i := by
  unfold wpY_key
  exact ps_yO hf (fun _ => br_f ps_10 (br_t hi h)) (fun q => absurd hk q)
theorem ps_yat {j : Nat} (hK : ps_K kd sz L) (hR : ps_R 50 a b L) (hf : f < 8) (hk : kd f = 2) (hj : j < 2 ^ 31) (hy : j < (L f).length → post (ps_at (L f) j).1) (hn : ¬ j < (L f).length → post 0) :
    wpY_at post (n, kd, sz, a, b, x, y) (nI f) (nI j) := by
  have hz := (hK f hf).1
  have hL := ps_K_le hK f hf
  unfold wpY_at
  refine ps_yO hf (fun _ => br_f ps_10 (br_f (nI_pos hj) ⟨ps_in8 hf, ?_⟩)) (fun q => absurd hk q)
  rw [ps_cl8 hf, hz]
  refine pk_le (L f).length j (fun c => hn (by omega)) (fun c => ⟨ps_inY hf (by omega), ?_⟩)
  rw [ps_clY hf (by omega), (hR f hf j c).1]
  exact hy c
theorem ps_yat_k {i : Int32} (hf : f < 8) (hk : ¬ kd f = 2) (h : post 0) : wpY_at post (n, kd, sz, a, b, x, y) (nI f) i := by
  unfold wpY_at
  exact ps_yO hf (fun q => absurd q hk) (fun _ => br_t rfl h)
theorem ps_yat_p {i z : Int32} (hx : ¬ ∃ p, p < 8 ∧ z = nI p) (h : post 0) : wpY_at post (n, kd, sz, a, b, x, y) z i := by
  unfold wpY_at
  exact ps_yO0 hx (br_t rfl h)
theorem ps_yat_n {i : Int32} (hf : f < 8) (hk : kd f = 2) (hi : i < 0) (h : post 0) : wpY_at post (n, kd, sz, a, b, x, y) (nI f) i := by
  unfold wpY_at
  exact ps_yO hf (fun _ => br_f ps_10 (br_t hi h)) (fun q => absurd hk q)
theorem ps_yabout {w : Nat} (hf : f < 8) (hw : w < 2) (h : post (if w = 0 then kd f else sz f)) : wpY_about post (n, kd, sz, a, b, x, y) (nI f) (nI w) := by
  unfold wpY_about
  refine ps_yP1 hf (br_f ps_10 (br_f (nI_pos (by omega)) (br_t (nI_le (b := 1) (by omega) (by decide)) ?_)))
  rw [ps_cl8 hf]
  refine pk_eq w 0 (fun c => ⟨ps_in8 hf, ?_⟩) (fun c => ⟨ps_in8 hf, ?_⟩)
  · rw [if_pos c] at h; exact h
  · rw [if_neg c] at h; exact h
theorem ps_ysal {g : Nat} (hK : ps_K kd sz L) (hR : ps_R 50 a b L) (hf : f < 8) (hg : g < 8) (hlen : (L f).length = (L g).length) (hL : (L f).length ≤ 48) (h2 : ¬ kd f = 1 → ∀ s, (ps_at (L f) s).2 = (ps_at (L g) s).2) :
    ∀ (c s : Nat), s + c = (L f).length → (ps_agr (L f) (L g) s → post 1) → (¬ ps_agr (L f) (L g) s → post 0) → wY_same_57 post (nI f) (nI g) n kd sz a b x y (c + 1) (nI s) := by
  have hz := (hK f hf).1
  intro c
  induction c with
  | zero =>
    intro s e hy hn
    refine ⟨ps_in8 hf, ?_⟩
    rw [ps_cl8 hf, hz]
    exact br_t (nI_le (by omega) (by omega)) (hy (fun k h1 h2 => absurd h1 (by omega)))
  | succ c ih =>
    intro s e hy hn
    have i1 : s < 50 := by omega
    have ra := hR f hf s (by omega)
    have rb := hR g hg s (by omega)
    have go : (ps_at (L f) s).1 = (ps_at (L g) s).1 → (ps_at (L f) s).2 = (ps_at (L g) s).2 → wY_same_57 post (nI f) (nI g) n kd sz a b x y (c + 1) (nI (s + 1)) := fun q1 q2 => by
      have w := ps_agr_1 (Prod.ext q1 q2)
      exact ih (s + 1) (by omega) (fun z => hy (w.mpr z)) (fun z => hn (fun y => z (w.mp y)))
    refine ⟨ps_in8 hf, ?_⟩
    rw [ps_cl8 hf, hz]
    refine br_f (nI_ge (by omega) (by omega)) ⟨ps_inY hf i1, ps_inY hg i1, ?_⟩
    rw [ps_clY hf i1, ps_clY hg i1, ra.1, rb.1, ra.2, rb.2]
    refine br_c (fun q1 => ⟨ps_in8 hf, br_c (fun k1 => ⟨ps_inY hf i1, ps_inY hg i1, br_c (fun q2 => nm_r (nI_1 s) (go q1 q2)) (fun q2 => ?_)⟩) (fun k1 => nm_r (nI_1 s) (go q1 (h2 k1 s)))⟩) (fun q1 => ?_)
    · exact hn (fun z => q2 (congrArg Prod.snd (z s (Nat.le_refl _) (by omega))))
    · exact hn (fun z => q1 (congrArg Prod.fst (z s (Nat.le_refl _) (by omega))))
theorem ps_ysame {g : Nat} (hK : ps_K kd sz L) (hR : ps_R 50 a b L) (hf : f < 8) (hg : g < 8) (h0 : ¬ kd f = 0) (hk : kd f = kd g) (hs : sz f = sz g) (hy : ps_agr (L f) (L g) 0 → post 1) (hn : ¬ ps_agr (L f) (L g) 0 → post 0) :
    wpY_same post (n, kd, sz, a, b, x, y) (nI f) (nI g) := by
  have hz := (hK f hf).1
  have hL := ps_K_le hK f hf
  have hLg := ps_K_le hK g hg
  have hlen : (L f).length = (L g).length := by
    have e : nI (L f).length = nI (L g).length := by rw [← hz, ← (hK g hg).1]; exact hs
    exact (nI_eq (by omega) (by omega)).mp e
  have h2 : ¬ kd f = 1 → ∀ s, (ps_at (L f) s).2 = (ps_at (L g) s).2 := fun k1 s => by
    have kf : kd f = 2 := by
      rcases (hK f hf).2 with q | q | q
      · exact absurd q.1 h0
      · exact absurd q.1 k1
      · exact q.1
    rw [ps_z_at (ps_kok_2 (hK f hf).2 kf).2 s, ps_z_at (ps_kok_2 (hK g hg).2 (hk.symm.trans kf)).2 s]
  unfold wpY_same
  refine ps_yP1 hf (br_f ps_10 (ps_yP1 hg (br_f ps_10 ⟨ps_in8 hf, ?_⟩)))
  rw [ps_cl8 hf, ps_cl8 hg]
  exact br_f h0 ⟨ps_in8 hf, ps_in8 hg, br_t hk ⟨ps_in8 hf, ps_in8 hg, br_t hs ⟨(L f).length + 1, ps_ysal hK hR hf hg hlen hL h2 (L f).length 0 (Nat.zero_add _) hy hn⟩⟩⟩
end
section
variable {kd sz a b x y : Nat → Int32} {n : Int32} {L : Nat → List ps_E} {f t : Nat} {post : Int64 → Prop}
theorem ps_yul {i j : Int32} (hK : ps_K kd sz L) (hR : ps_R 50 a b L) (hf : f < 8) (h : post (ps_sy (L f) i j (L f).length)) :
    ∀ (c s : Nat), s + c = (L f).length → wY_sum_18 post (nI f) i j n kd sz a b x y (c + 1) (ps_sy (L f) i j s) (nI s) := by
  have hz := (hK f hf).1
  have hL := ps_K_le hK f hf
  intro c
  induction c with
  | zero =>
    intro s e
    have q : s = (L f).length := by omega
    subst q
    refine ⟨ps_in8 hf, ?_⟩
    rw [ps_cl8 hf, hz]
    exact br_t (Int32.le_refl _) h
  | succ c ih =>
    intro s e
    have i1 : s < 50 := by omega
    have w := ih (s + 1) (by omega)
    refine ⟨ps_in8 hf, ?_⟩
    rw [ps_cl8 hf, hz]
    refine br_f (nI_ge (by omega) (by omega)) (br_c (fun q => nm_r (nI_1 s) ?_) (fun q => br_c (fun q2 => nm_r (nI_1 s) ?_) (fun q2 => ⟨ps_inY hf i1, ?_⟩)))
    · rw [ps_sy_n (fun z => absurd (Int32.lt_of_lt_of_le q z.1) Int32.lt_irrefl)] at w
      exact w
    · rw [ps_sy_n (fun z => absurd (Int32.lt_of_lt_of_le z.2 q2) Int32.lt_irrefl)] at w
      exact w
    · rw [ps_clY hf i1, (hR f hf s (by omega)).1]
      rw [ps_sy_y ⟨Int32.not_lt.mp q, Int32.not_le.mp q2⟩] at w
      exact nm_e (nm_r (nI_1 s) w)
theorem ps_ysum {i j : Int32} (hK : ps_K kd sz L) (hR : ps_R 50 a b L) (hf : f < 8) (h2 : kd f = 2) (h : post (ps_sy (L f) i j (L f).length)) :
    wpY_sum post (n, kd, sz, a, b, x, y) (nI f) i j := by
  unfold wpY_sum
  exact ps_yO hf (fun _ => br_f ps_10 ⟨(L f).length + 1, ps_yul hK hR hf h (L f).length 0 (Nat.zero_add _)⟩) (fun q => absurd h2 q)
end
end
section
section
variable {kd sz a b x y : Nat → Int32} {n : Int32} {L : Nat → List ps_E} {f t : Nat} {post : Int32 → SY → Prop}
theorem ps_yv60 {w : Nat} (hK : ps_K kd sz L) (hR : ps_R 50 a b L) (hf : f < 8) (ht : t < 8) (hw : w < 2)
    (h : ∀ r u', ps_out ps_Y kd sz L 2 48 t (ps_aq [] (ps_fc (L f) w) (L f).length) r u' → post r u') :
    ∀ (c k : Nat), k + c = (L f).length → ∀ x y, ps_dr 100 x y (ps_aq [] (ps_fc (L f) w) k) → wY_convert_60 post (nI f) (nI w) (nI t) (c + 1) (nI k) (nI (ps_aq [] (ps_fc (L f) w) k).length) kd sz a b x y := by
  have hL := ps_K_le hK f hf
  have hz := (hK f hf).1
  intro c
  induction c with
  | zero =>
    intro k e x y hd
    have q : k = (L f).length := by omega
    subst q
    have l := ps_fc_len (L f) w (L f).length
    refine ⟨ps_in8 hf, ?_⟩
    rw [ps_cl8 hf, hz]
    exact br_t (nI_le (by omega) (by omega)) (ps_yV (Or.inr ⟨by decide, rfl⟩) ht hR (ps_K_le hK) hd (by omega) (fun r u' o => by obtain ⟨_, _, _, _, _, _, _⟩ := u'; exact h _ _ o))
  | succ c ih =>
    intro k e x y hd
    have l := ps_fc_len (L f) w k
    have i1 : k < 50 := by omega
    have r := hR f hf k (by omega)
    have w2 := ih (k + 1) (by omega)
    have z : ps_aq [] (ps_fc (L f) w) (k + 1) = ps_aq [] (ps_fc (L f) w) k ++ [(if w = 0 then (ps_at (L f) k).1 else (ps_at (L f) k).2, 0)] := rfl
    rw [z] at w2
    refine ⟨ps_in8 hf, ?_⟩
    rw [ps_cl8 hf, hz]
    refine br_f (nI_ge (by omega) (by omega)) (pk_eq w 0 (fun q => ⟨ps_inY hf i1, ?_⟩) (fun q => ⟨ps_inY hf i1, ?_⟩))
    · rw [ps_clY hf i1, r.1]
      rw [if_pos q] at w2
      unfold wY_convert_103
      exact ps_yA hd (by omega) (fun x' y' hd' => nm_r (nI_1 k) (w2 x' y' hd'))
    · rw [ps_clY hf i1, r.2]
      rw [if_neg q] at w2
      unfold wY_convert_103
      exact ps_yA hd (by omega) (fun x' y' hd' => nm_r (nI_1 k) (w2 x' y' hd'))
theorem ps_cnt_le (M : List ps_E) (j : Int32) : ∀ i, ps_cnt M j i ≤ i
  | 0 => Nat.le_refl _
  | i + 1 => by
    have h := ps_cnt_le M j i
    unfold ps_cnt
    split <;> omega
theorem ps_yv153 {w i : Nat} {e : Int32} {D : List ps_E} {J : Int32 → Int32 → (Nat → Int32) → (Nat → Int32) → (Nat → Int32) → (Nat → Int32) → (Nat → Int32) → (Nat → Int32) → Prop} (hK : ps_K kd sz L) (hR : ps_R 50 a b L) (hf : f < 8) (hw : w < 4)
    (h : wY_convert_205 post J (nI f) (nI w) (nI t) (nI i) (if w = 2 then nI (ps_cnt (L f) e (L f).length) else nI i) e (nI D.length) kd sz a b x y) :
    ∀ (c s : Nat), s + c = (L f).length → wY_convert_153 post J (nI f) (nI w) (nI t) (nI i) e (nI D.length) kd sz a b x y (c + 1) (nI (ps_cnt (L f) e s)) (nI s) := by
  have hL := ps_K_le hK f hf
  have hz := (hK f hf).1
  intro c
  induction c with
  | zero =>
    intro s es
    have q : s = (L f).length := by omega
    subst q
    refine ⟨ps_in8 hf, ?_⟩
    rw [ps_cl8 hf, hz]
    refine br_t (Int32.le_refl _) (pk_eq w 2 (fun c1 => ?_) (fun c1 => ?_))
    · rw [if_pos c1] at h; exact h
    · rw [if_neg c1] at h; exact h
  | succ c ih =>
    intro s es
    have i1 : s < 50 := by omega
    have v := ih (s + 1) (by omega)
    refine ⟨ps_in8 hf, ?_⟩
    rw [ps_cl8 hf, hz]
    refine br_f (nI_ge (by omega) (by omega)) ⟨ps_inY hf i1, ?_⟩
    rw [ps_clY hf i1, (hR f hf s (by omega)).1]
    refine br_c (fun q => nm_r (nI_1 _) (nm_r (nI_1 s) ?_)) (fun q => nm_r (nI_1 s) ?_)
    · rw [show ps_cnt (L f) e (s + 1) = ps_cnt (L f) e s + 1 by rw [ps_cnt]; exact if_pos q] at v
      exact v
    · rw [show ps_cnt (L f) e (s + 1) = ps_cnt (L f) e s by rw [ps_cnt]; exact if_neg q] at v
      exact v
theorem ps_yv122 {w : Nat} (hK : ps_K kd sz L) (hR : ps_R 50 a b L) (hf : f < 8) (ht : t < 8) (hw : w < 4)
    (h : ∀ r u', ps_out ps_Y kd sz L 1 24 t (ps_ty w (L f) (L f).length) r u' → post r u') :
    ∀ (c k : Nat), k + c = (L f).length → ∀ x y, ps_dr 100 x y (ps_ty w (L f) k) → wY_convert_122 post (nI f) (nI w) (nI t) (c + 1) (nI k) (nI (ps_ty w (L f) k).length) kd sz a b x y := by
  have hL := ps_K_le hK f hf
  have hz := (hK f hf).1
  intro c
  induction c with
  | zero =>
    intro k e x y hd
    have q : k = (L f).length := by omega
    subst q
    have l := ps_ty_len w (L f) (L f).length
    refine ⟨ps_in8 hf, ?_⟩
    rw [ps_cl8 hf, hz]
    exact br_t (nI_le (by omega) (by omega)) (ps_yV (Or.inl ⟨rfl, rfl⟩) ht hR (ps_K_le hK) hd (by omega) (fun r u' o => by obtain ⟨_, _, _, _, _, _, _⟩ := u'; exact h _ _ o))
  | succ c ih =>
    intro k e x y hd
    have l := ps_ty_len w (L f) k
    have i1 : k < 50 := by omega
    have r := hR f hf k (by omega)
    have w2 := ih (k + 1) (by omega)
    refine ⟨ps_in8 hf, ?_⟩
    rw [ps_cl8 hf, hz]
    refine br_f (nI_ge (by omega) (by omega)) ⟨ps_inY hf i1, ?_⟩
    rw [ps_clY hf i1, r.1]
    refine nm_e ⟨(L f).length + 1, ps_yv153 hK hR hf hw ?_ (L f).length 0 (Nat.zero_add _)⟩
    unfold wY_convert_205
    exact ps_yS hd (by omega) (fun x' y' hd' => nm_r (nI_1 k) (w2 x' y' hd'))
theorem ps_ycv1 {w : Nat} (hK : ps_K kd sz L) (hR : ps_R 50 a b L) (hf : f < 8) (ht : t < 8) (hw : w < 2) (h1 : kd f = 1)
    (h : ∀ r u', ps_out ps_Y kd sz L 2 48 t (ps_aq [] (ps_fc (L f) w) (L f).length) r u' → post r u') : wpY_convert post (n, kd, sz, a, b, x, y) (nI f) (nI w) (nI t) := by
  unfold wpY_convert
  refine ps_yP1 hf (br_f ps_10 (ps_yP1 ht (br_f ps_10 (br_f (nI_pos (by omega)) (br_t (nI_le (b := 3) (by omega) (by decide)) ⟨ps_in8 hf, ?_⟩)))))
  rw [ps_cl8 hf]
  exact br_f (nI_ge (b := 2) (by omega) (by decide)) (br_t h1 (br_f (nI_ge (b := 2) (by omega) (by decide)) ⟨(L f).length + 1, ps_yv60 hK hR hf ht hw h (L f).length 0 (Nat.zero_add _) x y ps_dr_n⟩))
theorem ps_ycv2 {w : Nat} (hK : ps_K kd sz L) (hR : ps_R 50 a b L) (hf : f < 8) (ht : t < 8) (hw : w < 4) (hw2 : 2 ≤ w) (h2 : kd f = 2)
    (h : ∀ r u', ps_out ps_Y kd sz L 1 24 t (ps_ty w (L f) (L f).length) r u' → post r u') : wpY_convert post (n, kd, sz, a, b, x, y) (nI f) (nI w) (nI t) := by
  unfold wpY_convert
  refine ps_yP1 hf (br_f ps_10 (ps_yP1 ht (br_f ps_10 (br_f (nI_pos (by omega)) (br_t (nI_le (b := 3) (by omega) (by decide)) ⟨ps_in8 hf, ?_⟩)))))
  rw [ps_cl8 hf]
  exact br_t (nI_le (a := 2) (by omega) (by omega)) (br_t h2 (br_t (nI_le (a := 2) (by omega) (by omega)) ⟨(L f).length + 1, ps_yv122 hK hR hf ht hw h (L f).length 0 (Nat.zero_add _) x y ps_dr_n⟩))
end
section
variable {kd sz a b x y : Nat → Int32} {n : Int32} {L : Nat → List ps_E} {p q t how s : Nat} {D : List ps_E} {k v : Int32} {post : Int32 → SY → Prop}
variable {J : Int32 → Int32 → (Nat → Int32) → (Nat → Int32) → (Nat → Int32) → (Nat → Int32) → (Nat → Int32) → (Nat → Int32) → Prop}
theorem ps_ym172 {z : Int32} (hd : ps_dr 100 x y D) (hD : D.length < 99) (h : ∀ x' y', ps_dr 100 x' y' (ps_ins k z D) → J (nI (s + 1)) (nI (ps_ins k z D).length) kd sz a b x' y') :
    wY_merge_172 post J (nI p) (nI q) (nI how) (nI t) (nI s) z k (nI D.length) kd sz a b x y := by
  unfold wY_merge_172
  exact ps_yS hd hD (fun x' y' hd' => nm_r (nI_1 s) (h x' y' hd'))
theorem ps_ym196 (hd : ps_dr 100 x y D) (hD : D.length < 99) (h : ∀ x' y', ps_dr 100 x' y' (ps_ins k v D) → J (nI (s + 1)) (nI (ps_ins k v D).length) kd sz a b x' y') :
    wY_merge_196 post J (nI p) (nI q) (nI how) (nI t) (nI s) k v (nI D.length) kd sz a b x y := by
  unfold wY_merge_196
  exact ps_yS hd hD (fun x' y' hd' => nm_r (nI_1 s) (h x' y' hd'))
theorem ps_ym133n {z0 : Int32} (hh : how < 6) (hd : ps_dr 100 x y D) (hD : D.length < 99)
    (hn : ps_cb how (some v) none = none → J (nI (s + 1)) (nI D.length) kd sz a b x y)
    (hs : ∀ z, ps_cb how (some v) none = some z → ∀ x' y', ps_dr 100 x' y' (ps_ins k z D) → J (nI (s + 1)) (nI (ps_ins k z D).length) kd sz a b x' y') :
    wY_merge_133 post J (nI p) (nI q) (nI how) (nI t) (nI s) k v (-1) z0 (nI D.length) kd sz a b x y := by
  unfold wY_merge_133
  refine pk_le 3 how (fun c1 => pk_eq how 3 (fun c2 => br_t ps_n1' (nm_r (nI_1 s) (hn (ps_cb_a c2)))) (fun c2 => br_f ps_n1 ?_)) (fun c1 => br_t ps_n1' ?_)
  · exact ps_ym196 hd hD (hs v (ps_cb_a' c2))
  · unfold wY_merge_152
    exact ps_ym172 hd hD (hs v (ps_cb_a' (by omega)))
theorem ps_ym133s {i : Nat} {w : Int32} (hi : i < 48) (hh : how < 6) (hd : ps_dr 100 x y D) (hD : D.length < 99)
    (hn : ps_cb how (some v) (some w) = none → J (nI (s + 1)) (nI D.length) kd sz a b x y)
    (hs : ∀ z, ps_cb how (some v) (some w) = some z → ∀ x' y', ps_dr 100 x' y' (ps_ins k z D) → J (nI (s + 1)) (nI (ps_ins k z D).length) kd sz a b x' y') :
    wY_merge_133 post J (nI p) (nI q) (nI how) (nI t) (nI s) k v (nI i) w (nI D.length) kd sz a b x y := by
  unfold wY_merge_133
  refine pk_le 3 how (fun c1 => pk_eq how 3 (fun c2 => br_f (nI_pos (by omega)) ?_) (fun c2 => br_t (nI_pos' (by omega)) (nm_r (nI_1 s) (hn (ps_cb_c (by omega)))))) (fun c1 => br_f (nI_pos (by omega)) (pk_eq how 0 (fun c2 => ?_) (fun c2 => pk_eq how 1 (fun c3 => ?_) (fun c3 => ?_))))
  · refine ps_ym196 hd hD (hs v ?_)
    rw [ps_cb_c' (by omega)]; unfold ps_vv
    rw [if_neg (by omega), if_neg (by omega)]
  · unfold wY_merge_152
    refine ps_ym172 hd hD (hs v ?_)
    rw [ps_cb_c' (by omega)]; unfold ps_vv
    rw [if_neg (by omega), if_neg (by omega)]
  · refine ps_ym172 hd hD (hs w ?_)
    rw [ps_cb_c' (by omega)]; unfold ps_vv
    rw [if_pos c3]
  · refine ps_ym172 hd hD (hs (v + w) ?_)
    rw [ps_cb_c' (by omega)]; unfold ps_vv
    rw [if_neg c3, if_pos (by omega)]
theorem ps_ym213 (hK : ps_K kd sz L) (hR : ps_R 50 a b L) (hp : p < 8) (hq : q < 8) (ht : t < 8) (hh : how < 6) (hD : D.length ≤ 48)
    (h : ∀ r u', ps_out ps_Y kd sz L 1 24 t (ps_fo (ps_p2 how (L p)) D (L q)) r u' → post r u') :
    ∀ (c s : Nat), s + c = (L q).length → ∀ x y, ps_dr 100 x y (ps_fo (ps_p2 how (L p)) D ((L q).take s)) →
      wY_merge_213 post (nI p) (nI q) (nI how) (nI t) (c + 1) (nI s) (nI (ps_fo (ps_p2 how (L p)) D ((L q).take s)).length) kd sz a b x y := by
  have hL := ps_K_le hK q hq
  have hLp := ps_K_le hK p hp
  have hz := (hK q hq).1
  intro c
  induction c with
  | zero =>
    intro s e x y hd
    have l := ps_fo_tk (ps_p2 how (L p)) D (L q) s
    refine ⟨ps_in8 hq, ?_⟩
    rw [ps_cl8 hq, hz]
    refine br_t (nI_le (by omega) (by omega)) ?_
    have tk : (L q).take s = L q := List.take_of_length_le (by omega)
    rw [tk] at hd l ⊢
    exact ps_yV (Or.inl ⟨rfl, rfl⟩) ht hR (ps_K_le hK) hd (by omega) (fun r u' o => by obtain ⟨_, _, _, _, _, _, _⟩ := u'; exact h _ _ o)
  | succ c ih =>
    intro s e x y hd
    have i1 : s < 50 := by omega
    have i2 : s < (L q).length := by omega
    have r := hR q hq s i2
    have l := ps_fo_tk (ps_p2 how (L p)) D (L q) s
    have st := ps_fo_1 (ps_p2 how (L p)) D (L q) s i2
    have v := ih (s + 1) (by omega)
    have skip : ps_p2 how (L p) (ps_at (L q) s).1 (ps_at (L q) s).2 = none → wY_merge_213 post (nI p) (nI q) (nI how) (nI t) (c + 1) (nI (s + 1)) (nI (ps_fo (ps_p2 how (L p)) D ((L q).take s)).length) kd sz a b x y := fun z => by
      rw [ps_st_n z] at st
      rw [st] at v
      exact v x y hd
    refine ⟨ps_in8 hq, ?_⟩
    rw [ps_cl8 hq, hz]
    refine br_f (nI_ge (by omega) (by omega)) ⟨ps_inY hq i1, ?_⟩
    rw [ps_clY hq i1, r.1]
    refine nm_e (ps_yF hp (hK p hp).1 (hR p hp) hLp (fun i hi g => br_t (nI_pos' (by omega)) (nm_r (nI_1 s) (skip ?_))) (fun g => br_f ps_n1 ?_))
    · unfold ps_p2; rw [g]
    · have e2 : ps_p2 how (L p) (ps_at (L q) s).1 (ps_at (L q) s).2 = ps_cb how none (some (ps_at (L q) s).2) := by unfold ps_p2; rw [g]
      have go : ¬ (how = 3 ∨ how = 4) → wY_merge_262 post (wY_merge_213 post (nI p) (nI q) (nI how) (nI t) (c + 1)) (nI p) (nI q) (nI how) (nI t) (nI s) (ps_at (L q) s).1 (nI (ps_fo (ps_p2 how (L p)) D ((L q).take s)).length) kd sz a b x y := fun z => by
        rw [ps_cb_b' z] at e2
        rw [ps_st_s e2] at st
        rw [st] at v
        refine ⟨ps_inY hq i1, ?_⟩
        rw [ps_clY hq i1, r.2]
        exact ps_yS hd (by omega) (fun x' y' hd' => nm_r (nI_1 s) (v x' y' hd'))
      refine pk_lt how 3 (fun c1 => go (by omega)) (fun c1 => pk_eq how 5 (fun c2 => go (by omega)) (fun c2 => nm_r (nI_1 s) (skip ?_)))
      rw [e2, ps_cb_b (by omega)]
theorem ps_ym64 (hK : ps_K kd sz L) (hR : ps_R 50 a b L) (hp : p < 8) (hq : q < 8) (ht : t < 8) (hh : how < 6)
    (h : ∀ r u', ps_out ps_Y kd sz L 1 24 t (ps_fo (ps_p2 how (L p)) (ps_fo (ps_p1 how (L q)) [] (L p)) (L q)) r u' → post r u') :
    ∀ (c s : Nat), s + c = (L p).length → ∀ x y, ps_dr 100 x y (ps_fo (ps_p1 how (L q)) [] ((L p).take s)) →
      wY_merge_64 post (nI p) (nI q) (nI how) (nI t) (c + 1) (nI s) (nI (ps_fo (ps_p1 how (L q)) [] ((L p).take s)).length) kd sz a b x y := by
  have hL := ps_K_le hK p hp
  have hLq := ps_K_le hK q hq
  have hz := (hK p hp).1
  intro c
  induction c with
  | zero =>
    intro s e x y hd
    have l := ps_fo_tk (ps_p1 how (L q)) [] (L p) s
    rw [List.length_nil] at l
    refine ⟨ps_in8 hp, ?_⟩
    rw [ps_cl8 hp, hz]
    refine br_t (nI_le (by omega) (by omega)) ?_
    have tk : (L p).take s = L p := List.take_of_length_le (by omega)
    rw [tk] at hd l ⊢
    exact ⟨(L q).length + 1, ps_ym213 hK hR hp hq ht hh (by omega) h (L q).length 0 (Nat.zero_add _) x y hd⟩
  | succ c ih =>
    intro s e x y hd
    have i1 : s < 50 := by omega
    have i2 : s < (L p).length := by omega
    have r := hR p hp s i2
    have l := ps_fo_tk (ps_p1 how (L q)) [] (L p) s
    rw [List.length_nil] at l
    have st := ps_fo_1 (ps_p1 how (L q)) [] (L p) s i2
    have v := ih (s + 1) (by omega)
    have skip : ps_p1 how (L q) (ps_at (L p) s).1 (ps_at (L p) s).2 = none → wY_merge_64 post (nI p) (nI q) (nI how) (nI t) (c + 1) (nI (s + 1)) (nI (ps_fo (ps_p1 how (L q)) [] ((L p).take s)).length) kd sz a b x y := fun z => by
      rw [ps_st_n z] at st
      rw [st] at v
      exact v x y hd
    have put : ∀ z, ps_p1 how (L q) (ps_at (L p) s).1 (ps_at (L p) s).2 = some z → ∀ x' y', ps_dr 100 x' y' (ps_ins (ps_at (L p) s).1 z (ps_fo (ps_p1 how (L q)) [] ((L p).take s))) → wY_merge_64 post (nI p) (nI q) (nI how) (nI t) (c + 1) (nI (s + 1)) (nI (ps_ins (ps_at (L p) s).1 z (ps_fo (ps_p1 how (L q)) [] ((L p).take s))).length) kd sz a b x' y' := fun z ez x' y' hd' => by
      rw [ps_st_s ez] at st
      rw [st] at v
      exact v x' y' hd'
    refine ⟨ps_in8 hp, ?_⟩
    rw [ps_cl8 hp, hz]
    refine br_f (nI_ge (by omega) (by omega)) ⟨ps_inY hp i1, ?_⟩
    rw [ps_clY hp i1, r.1, r.2]
    refine nm_e ⟨ps_inY hp i1, nm_e (ps_yF hq (hK q hq).1 (hR q hq) hLq (fun i hi g => br_t (nI_pos' (by omega)) ⟨ps_inY hq (by omega), ?_⟩) (fun g => br_f ps_n1 ?_))⟩
    · rw [ps_clY hq (by omega), (hR q hq i hi).2]
      unfold ps_p1 at skip put
      rw [g] at skip put
      exact ps_ym133s (by omega) hh hd (by omega) skip put
    · unfold ps_p1 at skip put
      rw [g] at skip put
      exact ps_ym133n hh hd (by omega) skip put
theorem ps_ymerge (hK : ps_K kd sz L) (hR : ps_R 50 a b L) (hp : p < 8) (hq : q < 8) (ht : t < 8) (hh : how < 6) (h1 : kd p = 1) (h2 : kd q = 1)
    (h : ∀ r u', ps_out ps_Y kd sz L 1 24 t (ps_mg how ((L p).length + (L q).length) (L p) (L q)) r u' → post r u') :
    wpY_merge post (n, kd, sz, a, b, x, y) (nI p) (nI q) (nI how) (nI t) := by
  rw [← ps_mg_fo how _ (L p) (L q) (Nat.le_refl _) (ps_kok_1 (hK p hp).2 h1).2 (ps_kok_1 (hK q hq).2 h2).2] at h
  unfold wpY_merge
  refine ps_yP1 hp (br_f ps_10 (ps_yP1 hq (br_f ps_10 (ps_yP1 ht (br_f ps_10 (br_f (nI_pos (by omega)) (br_t (nI_le (b := 5) (by omega) (by decide)) ⟨ps_in8 hp, ?_⟩)))))))
  rw [ps_cl8 hp, ps_cl8 hq]
  exact br_t h1 ⟨ps_in8 hq, br_t h2 ⟨(L p).length + 1, ps_ym64 hK hR hp hq ht hh h (L p).length 0 (Nat.zero_add _) x y ps_dr_n⟩⟩
end
end
section
theorem ps_z_aq {D : List ps_E} {f : Nat → List ps_E} (n : Nat) (hD : ps_z D) (hf : ∀ k, ps_z (f k)) : ps_z (ps_aq D f n) := by
  rw [ps_aq_eq]
  exact ps_z_a hD (ps_z_ap f n (fun k _ => hf k))
theorem ps_mg_len (how : Nat) : ∀ (n : Nat) (A B : List ps_E), (ps_mg how n A B).length ≤ n
  | 0, _, _ => by rw [ps_mg]; exact Nat.le_refl _
  | _ + 1, [], [] => by rw [ps_mg]; exact Nat.zero_le _
  | n + 1, e :: s, [] => by
    have h := ps_mg_len how n s []
    rw [ps_mg, List.length_append]
    have l : (ps_o e.1 (ps_cb how (some e.2) none)).length ≤ 1 := by cases ps_cb how (some e.2) none <;> simp [ps_o]
    omega
  | n + 1, [], f :: t => by
    have h := ps_mg_len how n [] t
    rw [ps_mg, List.length_append]
    have l : (ps_o f.1 (ps_cb how none (some f.2))).length ≤ 1 := by cases ps_cb how none (some f.2) <;> simp [ps_o]
    omega
  | n + 1, e :: s, f :: t => by
    have h1 := ps_mg_len how n s (f :: t)
    have h2 := ps_mg_len how n (e :: s) t
    have h3 := ps_mg_len how n s t
    have l1 : (ps_o e.1 (ps_cb how (some e.2) none)).length ≤ 1 := by cases ps_cb how (some e.2) none <;> simp [ps_o]
    have l2 : (ps_o f.1 (ps_cb how none (some f.2))).length ≤ 1 := by cases ps_cb how none (some f.2) <;> simp [ps_o]
    have l3 : (ps_o e.1 (ps_cb how (some e.2) (some f.2))).length ≤ 1 := by cases ps_cb how (some e.2) (some f.2) <;> simp [ps_o]
    rw [ps_mg]
    split
    · rw [List.length_append]; omega
    · split
      · rw [List.length_append]; omega
      · rw [List.length_append]; omega
theorem ps_m1 : ¬ (-1 : Int32) = 0 := by decide
theorem ps_m2 : ¬ (-2 : Int32) = 0 := by decide
theorem ps_m3 : ¬ (-3 : Int32) = 0 := by decide
theorem i_up {k : Nat} {u : SX} {v : SY} (h : i_Rel k u v) : i_Rel (k + 5) u v := h
theorem i_vc0 : wpX_init (fun u => wpY_init (fun v => i_Rel 0 u v)) :=
  ⟨fun _ => 0, fun _ => 0, fun _ => [], fun _ _ => ⟨rfl, Or.inl ⟨rfl, rfl⟩⟩, ⟨0, _, _, _, _, rfl, fun _ _ i hi => absurd hi (Nat.not_lt_zero i)⟩, ⟨0, _, _, _, _, rfl, fun _ _ i hi => absurd hi (Nat.not_lt_zero i)⟩⟩
theorem i_vc_make {k : Nat} {u : SX} {v : SY} (I : i_Rel k u v) (hk : k + 5 ≤ 2560) (v1 : Int32) (v2 : Int32) : wpX_make (fun r u' => wpY_make (fun r' v' => r' = r ∧ i_Rel (k + 5) u' v') v v1 v2) u v1 v2 := by
  obtain ⟨kd, sz, L, hK, ⟨ds, it, vl, di, dv, rfl, hX⟩, ⟨n, a, b, x, y, rfl, hY⟩⟩ := I
  have J : i_Rel (k + 5) (ds, kd, sz, it, vl, di, dv) (n, kd, sz, a, b, x, y) := ⟨kd, sz, L, hK, ⟨ds, it, vl, di, dv, rfl, hX⟩, ⟨n, a, b, x, y, rfl, hY⟩⟩
  by_cases c1 : ∃ p, p < 8 ∧ v1 = nI p
  · obtain ⟨t, ht, rfl⟩ := c1
    by_cases c2 : v2 < 0
    · skip
      unfold wpX_make
      refine ps_xP1 ht (br_f ps_10 (br_t c2 ?_))
      unfold wpY_make
      exact ps_yP1 ht (br_f ps_10 (br_t c2 ⟨rfl, J⟩))
    · by_cases c3 : v2 ≤ 2
      · refine ps_xmake hK hX ht c2 c3 (fun r u' o => ps_ymake hK hY ht c2 c3 (fun r' v' o' => ps_fin hK (fun _ => ?_) o o'))
        obtain ⟨j, hj, rfl⟩ := nI_of2 (M := 2) (n := 2) (by decide) c2 c3
        have q : j = 0 ∨ j = 1 ∨ j = 2 := by omega
        rcases q with rfl | rfl | rfl
        · exact Or.inl ⟨rfl, rfl⟩
        · exact Or.inr (Or.inl ⟨rfl, Nat.zero_le _, True.intro⟩)
        · exact Or.inr (Or.inr ⟨rfl, Nat.zero_le _, ps_z_n⟩)
      · skip
        unfold wpX_make
        refine ps_xP1 ht (br_f ps_10 (br_f c2 (br_f c3 ?_)))
        unfold wpY_make
        exact ps_yP1 ht (br_f ps_10 (br_f c2 (br_f c3 ⟨rfl, J⟩)))
  · skip
    unfold wpX_make
    refine ps_xP0 c1 (br_t rfl ?_)
    unfold wpY_make
    exact ps_yP0 c1 (br_t rfl ⟨rfl, J⟩)
theorem i_vc_copy {k : Nat} {u : SX} {v : SY} (I : i_Rel k u v) (hk : k + 5 ≤ 2560) (v1 : Int32) (v2 : Int32) : wpX_copy (fun r u' => wpY_copy (fun r' v' => r' = r ∧ i_Rel (k + 5) u' v') v v1 v2) u v1 v2 := by
  obtain ⟨kd, sz, L, hK, ⟨ds, it, vl, di, dv, rfl, hX⟩, ⟨n, a, b, x, y, rfl, hY⟩⟩ := I
  have J : i_Rel (k + 5) (ds, kd, sz, it, vl, di, dv) (n, kd, sz, a, b, x, y) := ⟨kd, sz, L, hK, ⟨ds, it, vl, di, dv, rfl, hX⟩, ⟨n, a, b, x, y, rfl, hY⟩⟩
  by_cases c1 : ∃ p, p < 8 ∧ v1 = nI p
  · obtain ⟨f, hf, rfl⟩ := c1
    by_cases c2 : ∃ p, p < 8 ∧ v2 = nI p
    · obtain ⟨t, ht, rfl⟩ := c2
      by_cases c3 : kd f = 0
      · skip
        unfold wpX_copy
        refine ps_xP1 hf (br_f ps_10 (ps_xP1 ht (br_f ps_10 (⟨ps_in8 hf, ?_⟩))))
        rw [ps_cl8 hf]
        refine br_t c3 ?_
        unfold wpY_copy
        refine ps_yP1 hf (br_f ps_10 (ps_yP1 ht (br_f ps_10 (⟨ps_in8 hf, ?_⟩))))
        rw [ps_cl8 hf]
        exact br_t c3 ⟨rfl, J⟩
      · exact ps_xcopy hK hX hf ht c3 (fun r u' o => ps_ycopy hK hY hf ht c3 (fun r' v' o' => ps_fin hK (fun _ => (hK f hf).2) o o'))
    · skip
      unfold wpX_copy
      refine ps_xP1 hf (br_f ps_10 (ps_xP0 c2 (br_t rfl ?_)))
      unfold wpY_copy
      exact ps_yP1 hf (br_f ps_10 (ps_yP0 c2 (br_t rfl ⟨rfl, J⟩)))
  · skip
    unfold wpX_copy
    refine ps_xP0 c1 (br_t rfl ?_)
    unfold wpY_copy
    exact ps_yP0 c1 (br_t rfl ⟨rfl, J⟩)
theorem i_vc_put {k : Nat} {u : SX} {v : SY} (I : i_Rel k u v) (hk : k + 5 ≤ 2560) (v1 : Int32) (v2 : Int32) (v3 : Int32) (v4 : Int32) : wpX_put (fun r u' => wpY_put (fun r' v' => r' = r ∧ i_Rel (k + 5) u' v') v v1 v2 v3 v4) u v1 v2 v3 v4 := by
  obtain ⟨kd, sz, L, hK, ⟨ds, it, vl, di, dv, rfl, hX⟩, ⟨n, a, b, x, y, rfl, hY⟩⟩ := I
  have J : i_Rel (k + 5) (ds, kd, sz, it, vl, di, dv) (n, kd, sz, a, b, x, y) := ⟨kd, sz, L, hK, ⟨ds, it, vl, di, dv, rfl, hX⟩, ⟨n, a, b, x, y, rfl, hY⟩⟩
  by_cases c1 : ∃ p, p < 8 ∧ v1 = nI p
  · obtain ⟨f, hf, rfl⟩ := c1
    by_cases c2 : ∃ p, p < 8 ∧ v4 = nI p
    · obtain ⟨t, ht, rfl⟩ := c2
      by_cases c3 : kd f = 1
      · exact ps_xput hK hX hf ht c3 (fun r u' o => ps_yput hK hY hf ht c3 (fun r' v' o' => ps_fin hK (fun q => Or.inr (Or.inl ⟨rfl, q, ps_ins_srt _ _ _ (ps_kok_1 (hK f hf).2 c3).2⟩)) o o'))
      · skip
        unfold wpX_put
        refine ps_xP1 hf (br_f ps_10 (ps_xP1 ht (br_f ps_10 (⟨ps_in8 hf, ?_⟩))))
        rw [ps_cl8 hf]
        refine br_f c3 ?_
        unfold wpY_put
        refine ps_yP1 hf (br_f ps_10 (ps_yP1 ht (br_f ps_10 (⟨ps_in8 hf, ?_⟩))))
        rw [ps_cl8 hf]
        exact br_f c3 ⟨rfl, J⟩
    · skip
      unfold wpX_put
      refine ps_xP1 hf (br_f ps_10 (ps_xP0 c2 (br_t rfl ?_)))
      unfold wpY_put
      exact ps_yP1 hf (br_f ps_10 (ps_yP0 c2 (br_t rfl ⟨rfl, J⟩)))
  · skip
    unfold wpX_put
    refine ps_xP0 c1 (br_t rfl ?_)
    unfold wpY_put
    exact ps_yP0 c1 (br_t rfl ⟨rfl, J⟩)
theorem i_vc_remove {k : Nat} {u : SX} {v : SY} (I : i_Rel k u v) (hk : k + 5 ≤ 2560) (v1 : Int32) (v2 : Int32) (v3 : Int32) : wpX_remove (fun r u' => wpY_remove (fun r' v' => r' = r ∧ i_Rel (k + 5) u' v') v v1 v2 v3) u v1 v2 v3 := by
  obtain ⟨kd, sz, L, hK, ⟨ds, it, vl, di, dv, rfl, hX⟩, ⟨n, a, b, x, y, rfl, hY⟩⟩ := I
  have J : i_Rel (k + 5) (ds, kd, sz, it, vl, di, dv) (n, kd, sz, a, b, x, y) := ⟨kd, sz, L, hK, ⟨ds, it, vl, di, dv, rfl, hX⟩, ⟨n, a, b, x, y, rfl, hY⟩⟩
  by_cases c1 : ∃ p, p < 8 ∧ v1 = nI p
  · obtain ⟨f, hf, rfl⟩ := c1
    by_cases c2 : ∃ p, p < 8 ∧ v3 = nI p
    · obtain ⟨t, ht, rfl⟩ := c2
      by_cases c3 : kd f = 1
      · exact ps_xrem hK hX hf ht c3 (fun r u' o => ps_yrem hK hY hf ht c3 (fun r' v' o' => ps_fin hK (fun q => Or.inr (Or.inl ⟨rfl, q, ps_rm_srt _ _ (ps_kok_1 (hK f hf).2 c3).2⟩)) o o'))
      · skip
        unfold wpX_remove
        refine ps_xP1 hf (br_f ps_10 (ps_xP1 ht (br_f ps_10 (⟨ps_in8 hf, ?_⟩))))
        rw [ps_cl8 hf]
        refine br_f c3 ?_
        unfold wpY_remove
        refine ps_yP1 hf (br_f ps_10 (ps_yP1 ht (br_f ps_10 (⟨ps_in8 hf, ?_⟩))))
        rw [ps_cl8 hf]
        exact br_f c3 ⟨rfl, J⟩
    · skip
      unfold wpX_remove
      refine ps_xP1 hf (br_f ps_10 (ps_xP0 c2 (br_t rfl ?_)))
      unfold wpY_remove
      exact ps_yP1 hf (br_f ps_10 (ps_yP0 c2 (br_t rfl ⟨rfl, J⟩)))
  · skip
    unfold wpX_remove
    refine ps_xP0 c1 (br_t rfl ?_)
    unfold wpY_remove
    exact ps_yP0 c1 (br_t rfl ⟨rfl, J⟩)
theorem i_vc_turn {k : Nat} {u : SX} {v : SY} (I : i_Rel k u v) (hk : k + 5 ≤ 2560) (v1 : Int32) (v2 : Int32) : wpX_turn (fun r u' => wpY_turn (fun r' v' => r' = r ∧ i_Rel (k + 5) u' v') v v1 v2) u v1 v2 := by
  obtain ⟨kd, sz, L, hK, ⟨ds, it, vl, di, dv, rfl, hX⟩, ⟨n, a, b, x, y, rfl, hY⟩⟩ := I
  have J : i_Rel (k + 5) (ds, kd, sz, it, vl, di, dv) (n, kd, sz, a, b, x, y) := ⟨kd, sz, L, hK, ⟨ds, it, vl, di, dv, rfl, hX⟩, ⟨n, a, b, x, y, rfl, hY⟩⟩
  by_cases c1 : ∃ p, p < 8 ∧ v1 = nI p
  · obtain ⟨f, hf, rfl⟩ := c1
    by_cases c2 : ∃ p, p < 8 ∧ v2 = nI p
    · obtain ⟨t, ht, rfl⟩ := c2
      by_cases c3 : kd f = 2
      · have hzz := (ps_kok_2 (hK f hf).2 c3).2
        exact ps_xturn hK hX hf ht c3 (fun r u' o => ps_yturn hK hY hf ht c3 (fun r' v' o' => ps_fin hK (fun q => Or.inr (Or.inr ⟨rfl, q, ps_z_aq _ ps_z_n (fun _ => ps_z_e hzz _)⟩)) o o'))
      · skip
        unfold wpX_turn
        refine ps_xP1 hf (br_f ps_10 (ps_xP1 ht (br_f ps_10 (⟨ps_in8 hf, ?_⟩))))
        rw [ps_cl8 hf]
        refine br_f c3 ?_
        unfold wpY_turn
        refine ps_yP1 hf (br_f ps_10 (ps_yP1 ht (br_f ps_10 (⟨ps_in8 hf, ?_⟩))))
        rw [ps_cl8 hf]
        exact br_f c3 ⟨rfl, J⟩
    · skip
      unfold wpX_turn
      refine ps_xP1 hf (br_f ps_10 (ps_xP0 c2 (br_t rfl ?_)))
      unfold wpY_turn
      exact ps_yP1 hf (br_f ps_10 (ps_yP0 c2 (br_t rfl ⟨rfl, J⟩)))
  · skip
    unfold wpX_turn
    refine ps_xP0 c1 (br_t rfl ?_)
    unfold wpY_turn
    exact ps_yP0 c1 (br_t rfl ⟨rfl, J⟩)
theorem i_vc_insert {k : Nat} {u : SX} {v : SY} (I : i_Rel k u v) (hk : k + 5 ≤ 2560) (v1 : Int32) (v2 : Int32) (v3 : Int32) (v4 : Int32) : wpX_insert (fun r u' => wpY_insert (fun r' v' => r' = r ∧ i_Rel (k + 5) u' v') v v1 v2 v3 v4) u v1 v2 v3 v4 := by
  obtain ⟨kd, sz, L, hK, ⟨ds, it, vl, di, dv, rfl, hX⟩, ⟨n, a, b, x, y, rfl, hY⟩⟩ := I
  have J : i_Rel (k + 5) (ds, kd, sz, it, vl, di, dv) (n, kd, sz, a, b, x, y) := ⟨kd, sz, L, hK, ⟨ds, it, vl, di, dv, rfl, hX⟩, ⟨n, a, b, x, y, rfl, hY⟩⟩
  by_cases c1 : ∃ p, p < 8 ∧ v1 = nI p
  · obtain ⟨f, hf, rfl⟩ := c1
    by_cases c2 : ∃ p, p < 8 ∧ v4 = nI p
    · obtain ⟨t, ht, rfl⟩ := c2
      have hL := ps_K_le hK f hf
      have hz := (hK f hf).1
      by_cases c3 : kd f = 2
      · have hzz := (ps_kok_2 (hK f hf).2 c3).2
        by_cases c4 : v2 < 0
        · skip
          unfold wpX_insert
          refine ps_xP1 hf (br_f ps_10 (ps_xP1 ht (br_f ps_10 (⟨ps_in8 hf, ?_⟩))))
          rw [ps_cl8 hf]
          refine br_t c3 (br_t c4 ?_)
          unfold wpY_insert
          refine ps_yP1 hf (br_f ps_10 (ps_yP1 ht (br_f ps_10 (⟨ps_in8 hf, ?_⟩))))
          rw [ps_cl8 hf]
          exact br_t c3 (br_t c4 ⟨rfl, J⟩)
        · by_cases c5 : v2 ≤ nI (L f).length
          · obtain ⟨i, hi, rfl⟩ := nI_of c4
            have c6 : i ≤ (L f).length := (nI_leI hi (by omega)).mp c5
            refine ps_xins hK hX hf ht c3 c6 (fun r u' o => ps_yins hK hY hf ht c3 c6 (fun r' v' o' => ?_))
            have e : ps_aq [] (ps_fi (L f) i v3) ((L f).length + 1) = ps_aq (ps_aq [] (ps_g (L f) 0) i ++ [(v3, 0)]) (ps_g (L f) i) ((L f).length - i) := by
              rw [ps_aq_eq [], ps_aq_eq [], ps_aq_eq, List.nil_append, List.nil_append, ps_fi_eq (L f) i v3 c6]
            rw [e] at o'
            exact ps_fin hK (fun q => Or.inr (Or.inr ⟨rfl, q, ps_z_aq _ (ps_z_a (ps_z_aq _ ps_z_n (fun _ => ps_z_e hzz _)) (ps_z_1 _)) (fun _ => ps_z_e hzz _)⟩)) o o'
          · skip
            unfold wpX_insert
            refine ps_xP1 hf (br_f ps_10 (ps_xP1 ht (br_f ps_10 (⟨ps_in8 hf, ?_⟩))))
            rw [ps_cl8 hf, hz]
            refine br_t c3 (br_f c4 ⟨ps_in8 hf, br_f c5 ?_⟩)
            unfold wpY_insert
            refine ps_yP1 hf (br_f ps_10 (ps_yP1 ht (br_f ps_10 (⟨ps_in8 hf, ?_⟩))))
            rw [ps_cl8 hf, hz]
            exact br_t c3 (br_f c4 ⟨ps_in8 hf, br_f c5 ⟨rfl, J⟩⟩)
      · skip
        unfold wpX_insert
        refine ps_xP1 hf (br_f ps_10 (ps_xP1 ht (br_f ps_10 (⟨ps_in8 hf, ?_⟩))))
        rw [ps_cl8 hf]
        refine br_f c3 ?_
        unfold wpY_insert
        refine ps_yP1 hf (br_f ps_10 (ps_yP1 ht (br_f ps_10 (⟨ps_in8 hf, ?_⟩))))
        rw [ps_cl8 hf]
        exact br_f c3 ⟨rfl, J⟩
    · skip
      unfold wpX_insert
      refine ps_xP1 hf (br_f ps_10 (ps_xP0 c2 (br_t rfl ?_)))
      unfold wpY_insert
      exact ps_yP1 hf (br_f ps_10 (ps_yP0 c2 (br_t rfl ⟨rfl, J⟩)))
  · skip
    unfold wpX_insert
    refine ps_xP0 c1 (br_t rfl ?_)
    unfold wpY_insert
    exact ps_yP0 c1 (br_t rfl ⟨rfl, J⟩)
theorem i_vc_cut {k : Nat} {u : SX} {v : SY} (I : i_Rel k u v) (hk : k + 5 ≤ 2560) (v1 : Int32) (v2 : Int32) (v3 : Int32) (v4 : Int32) : wpX_cut (fun r u' => wpY_cut (fun r' v' => r' = r ∧ i_Rel (k + 5) u' v') v v1 v2 v3 v4) u v1 v2 v3 v4 := by
  obtain ⟨kd, sz, L, hK, ⟨ds, it, vl, di, dv, rfl, hX⟩, ⟨n, a, b, x, y, rfl, hY⟩⟩ := I
  have J : i_Rel (k + 5) (ds, kd, sz, it, vl, di, dv) (n, kd, sz, a, b, x, y) := ⟨kd, sz, L, hK, ⟨ds, it, vl, di, dv, rfl, hX⟩, ⟨n, a, b, x, y, rfl, hY⟩⟩
  by_cases c1 : ∃ p, p < 8 ∧ v1 = nI p
  · obtain ⟨f, hf, rfl⟩ := c1
    by_cases c2 : ∃ p, p < 8 ∧ v4 = nI p
    · obtain ⟨t, ht, rfl⟩ := c2
      have hL := ps_K_le hK f hf
      have hz := (hK f hf).1
      by_cases c3 : kd f = 2
      · have hzz := (ps_kok_2 (hK f hf).2 c3).2
        by_cases c4 : v2 < 0
        · skip
          unfold wpX_cut wpX_refusalOfRange
          refine ps_xP1 hf (br_f ps_10 (ps_xP1 ht (br_f ps_10 (⟨ps_in8 hf, ?_⟩))))
          rw [ps_cl8 hf]
          refine br_t c3 (br_t c4 (br_f ps_m3 ?_))
          unfold wpY_cut wpY_some
          refine ps_yP1 hf (br_f ps_10 (ps_yP1 ht (br_f ps_10 (⟨ps_in8 hf, ?_⟩))))
          rw [ps_cl8 hf]
          exact br_t c3 (br_t c4 ⟨rfl, J⟩)
        · by_cases c5 : v3 < v2
          · skip
            unfold wpX_cut wpX_refusalOfRange
            refine ps_xP1 hf (br_f ps_10 (ps_xP1 ht (br_f ps_10 (⟨ps_in8 hf, ?_⟩))))
            rw [ps_cl8 hf]
            refine br_t c3 (br_f c4 (br_t c5 (br_f ps_m3 ?_)))
            unfold wpY_cut wpY_some
            refine ps_yP1 hf (br_f ps_10 (ps_yP1 ht (br_f ps_10 (⟨ps_in8 hf, ?_⟩))))
            rw [ps_cl8 hf]
            exact br_t c3 (br_f c4 (br_t c5 ⟨rfl, J⟩))
          · by_cases c6 : nI (L f).length < v3
            · have c7 : ¬ v3 ≤ nI (L f).length := Int32.not_le.mpr c6
              unfold wpX_cut wpX_refusalOfRange
              refine ps_xP1 hf (br_f ps_10 (ps_xP1 ht (br_f ps_10 (⟨ps_in8 hf, ?_⟩))))
              rw [ps_cl8 hf, hz]
              refine br_t c3 (br_f c4 (br_f c5 ⟨ps_in8 hf, br_t c6 (br_f ps_m3 ?_)⟩))
              unfold wpY_cut wpY_some
              refine ps_yP1 hf (br_f ps_10 (ps_yP1 ht (br_f ps_10 (⟨ps_in8 hf, ?_⟩))))
              rw [ps_cl8 hf, hz]
              exact br_t c3 (br_f c4 (br_f c5 ⟨ps_in8 hf, br_f c7 ⟨rfl, J⟩⟩))
            · have c8 : ¬ v3 < 0 := fun q => c4 (Int32.lt_of_le_of_lt (Int32.not_lt.mp c5) q)
              obtain ⟨i, hi, rfl⟩ := nI_of c4
              obtain ⟨j, hj, rfl⟩ := nI_of c8
              have d1 : i ≤ j := (nI_leI hi hj).mp (Int32.not_lt.mp c5)
              have d2 : j ≤ (L f).length := (nI_leI hj (by omega)).mp (Int32.not_lt.mp c6)
              refine ps_xcut hK hX hf ht c3 d1 d2 (fun r u' o => ?_)
              unfold wpY_cut
              refine ps_ysome false hK hY hf ht c3 d2 d1 (fun r' v' o' => ?_)
              have e : ps_aq [] (ps_fs (L f) i j false) (L f).length = ps_aq (ps_aq [] (ps_g (L f) 0) i) (ps_g (L f) j) ((L f).length - j) := by
                simp only [ps_aq_eq, List.nil_append]
                exact ps_fs_f (L f) i j d1 d2
              rw [e] at o'
              obtain ⟨_, _, _, _, _, _, _⟩ := v'
              exact ps_fin hK (fun q => Or.inr (Or.inr ⟨rfl, q, ps_z_aq _ (ps_z_aq _ ps_z_n (fun _ => ps_z_e hzz _)) (fun _ => ps_z_e hzz _)⟩)) o o'
      · skip
        unfold wpX_cut wpX_refusalOfRange
        refine ps_xP1 hf (br_f ps_10 (ps_xP1 ht (br_f ps_10 (⟨ps_in8 hf, ?_⟩))))
        rw [ps_cl8 hf]
        refine br_f c3 (br_f ps_m2 ?_)
        unfold wpY_cut wpY_some
        refine ps_yP1 hf (br_f ps_10 (ps_yP1 ht (br_f ps_10 (⟨ps_in8 hf, ?_⟩))))
        rw [ps_cl8 hf]
        exact br_f c3 ⟨rfl, J⟩
    · skip
      unfold wpX_cut wpX_refusalOfRange
      refine ps_xP1 hf (br_f ps_10 (ps_xP0 c2 (br_t rfl (br_f ps_m1 ?_))))
      unfold wpY_cut wpY_some
      exact ps_yP1 hf (br_f ps_10 (ps_yP0 c2 (br_t rfl ⟨rfl, J⟩)))
  · skip
    unfold wpX_cut wpX_refusalOfRange
    refine ps_xP0 c1 (br_t rfl (br_f ps_m1 ?_))
    unfold wpY_cut wpY_some
    exact ps_yP0 c1 (br_t rfl ⟨rfl, J⟩)
theorem i_vc_part {k : Nat} {u : SX} {v : SY} (I : i_Rel k u v) (hk : k + 5 ≤ 2560) (v1 : Int32) (v2 : Int32) (v3 : Int32) (v4 : Int32) : wpX_part (fun r u' => wpY_part (fun r' v' => r' = r ∧ i_Rel (k + 5) u' v') v v1 v2 v3 v4) u v1 v2 v3 v4 := by
  obtain ⟨kd, sz, L, hK, ⟨ds, it, vl, di, dv, rfl, hX⟩, ⟨n, a, b, x, y, rfl, hY⟩⟩ := I
  have J : i_Rel (k + 5) (ds, kd, sz, it, vl, di, dv) (n, kd, sz, a, b, x, y) := ⟨kd, sz, L, hK, ⟨ds, it, vl, di, dv, rfl, hX⟩, ⟨n, a, b, x, y, rfl, hY⟩⟩
  by_cases c1 : ∃ p, p < 8 ∧ v1 = nI p
  · obtain ⟨f, hf, rfl⟩ := c1
    by_cases c2 : ∃ p, p < 8 ∧ v4 = nI p
    · obtain ⟨t, ht, rfl⟩ := c2
      have hL := ps_K_le hK f hf
      have hz := (hK f hf).1
      by_cases c3 : kd f = 2
      · have hzz := (ps_kok_2 (hK f hf).2 c3).2
        by_cases c4 : v2 < 0
        · skip
          unfold wpX_part wpX_refusalOfRange
          refine ps_xP1 hf (br_f ps_10 (ps_xP1 ht (br_f ps_10 (⟨ps_in8 hf, ?_⟩))))
          rw [ps_cl8 hf]
          refine br_t c3 (br_t c4 (br_f ps_m3 ?_))
          unfold wpY_part wpY_some
          refine ps_yP1 hf (br_f ps_10 (ps_yP1 ht (br_f ps_10 (⟨ps_in8 hf, ?_⟩))))
          rw [ps_cl8 hf]
          exact br_t c3 (br_t c4 ⟨rfl, J⟩)
        · by_cases c5 : v3 < v2
          · skip
            unfold wpX_part wpX_refusalOfRange
            refine ps_xP1 hf (br_f ps_10 (ps_xP1 ht (br_f ps_10 (⟨ps_in8 hf, ?_⟩))))
            rw [ps_cl8 hf]
            refine br_t c3 (br_f c4 (br_t c5 (br_f ps_m3 ?_)))
            unfold wpY_part wpY_some
            refine ps_yP1 hf (br_f ps_10 (ps_yP1 ht (br_f ps_10 (⟨ps_in8 hf, ?_⟩))))
            rw [ps_cl8 hf]
            exact br_t c3 (br_f c4 (br_t c5 ⟨rfl, J⟩))
          · by_cases c6 : nI (L f).length < v3
            · have c7 : ¬ v3 ≤ nI (L f).length := Int32.not_le.mpr c6
              unfold wpX_part wpX_refusalOfRange
              refine ps_xP1 hf (br_f ps_10 (ps_xP1 ht (br_f ps_10 (⟨ps_in8 hf, ?_⟩))))
              rw [ps_cl8 hf, hz]
              refine br_t c3 (br_f c4 (br_f c5 ⟨ps_in8 hf, br_t c6 (br_f ps_m3 ?_)⟩))
              unfold wpY_part wpY_some
              refine ps_yP1 hf (br_f ps_10 (ps_yP1 ht (br_f ps_10 (⟨ps_in8 hf, ?_⟩))))
              rw [ps_cl8 hf, hz]
              exact br_t c3 (br_f c4 (br_f c5 ⟨ps_in8 hf, br_f c7 ⟨rfl, J⟩⟩))
            · have c8 : ¬ v3 < 0 := fun q => c4 (Int32.lt_of_le_of_lt (Int32.not_lt.mp c5) q)
              obtain ⟨i, hi, rfl⟩ := nI_of c4
              obtain ⟨j, hj, rfl⟩ := nI_of c8
              have d1 : i ≤ j := (nI_leI hi hj).mp (Int32.not_lt.mp c5)
              have d2 : j ≤ (L f).length := (nI_leI hj (by omega)).mp (Int32.not_lt.mp c6)
              refine ps_xpart hK hX hf ht c3 d1 d2 (fun r u' o => ?_)
              unfold wpY_part
              refine ps_ysome true hK hY hf ht c3 d2 d1 (fun r' v' o' => ?_)
              have e : ps_aq [] (ps_fs (L f) i j true) (L f).length = ps_aq [] (ps_g (L f) i) (j - i) := by
                simp only [ps_aq_eq, List.nil_append]
                exact ps_fs_t (L f) i j d1 d2
              rw [e] at o'
              obtain ⟨_, _, _, _, _, _, _⟩ := v'
              exact ps_fin hK (fun q => Or.inr (Or.inr ⟨rfl, q, ps_z_aq _ ps_z_n (fun _ => ps_z_e hzz _)⟩)) o o'
      · skip
        unfold wpX_part wpX_refusalOfRange
        refine ps_xP1 hf (br_f ps_10 (ps_xP1 ht (br_f ps_10 (⟨ps_in8 hf, ?_⟩))))
        rw [ps_cl8 hf]
        refine br_f c3 (br_f ps_m2 ?_)
        unfold wpY_part wpY_some
        refine ps_yP1 hf (br_f ps_10 (ps_yP1 ht (br_f ps_10 (⟨ps_in8 hf, ?_⟩))))
        rw [ps_cl8 hf]
        exact br_f c3 ⟨rfl, J⟩
    · skip
      unfold wpX_part wpX_refusalOfRange
      refine ps_xP1 hf (br_f ps_10 (ps_xP0 c2 (br_t rfl (br_f ps_m1 ?_))))
      unfold wpY_part wpY_some
      exact ps_yP1 hf (br_f ps_10 (ps_yP0 c2 (br_t rfl ⟨rfl, J⟩)))
  · skip
    unfold wpX_part wpX_refusalOfRange
    refine ps_xP0 c1 (br_t rfl (br_f ps_m1 ?_))
    unfold wpY_part wpY_some
    exact ps_yP0 c1 (br_t rfl ⟨rfl, J⟩)
theorem i_vc_join {k : Nat} {u : SX} {v : SY} (I : i_Rel k u v) (hk : k + 5 ≤ 2560) (v1 : Int32) (v2 : Int32) (v3 : Int32) : wpX_join (fun r u' => wpY_join (fun r' v' => r' = r ∧ i_Rel (k + 5) u' v') v v1 v2 v3) u v1 v2 v3 := by
  obtain ⟨kd, sz, L, hK, ⟨ds, it, vl, di, dv, rfl, hX⟩, ⟨n, a, b, x, y, rfl, hY⟩⟩ := I
  have J : i_Rel (k + 5) (ds, kd, sz, it, vl, di, dv) (n, kd, sz, a, b, x, y) := ⟨kd, sz, L, hK, ⟨ds, it, vl, di, dv, rfl, hX⟩, ⟨n, a, b, x, y, rfl, hY⟩⟩
  by_cases c1 : ∃ p, p < 8 ∧ v1 = nI p
  · obtain ⟨f, hf, rfl⟩ := c1
    by_cases c2 : ∃ p, p < 8 ∧ v2 = nI p
    · obtain ⟨g, hg, rfl⟩ := c2
      by_cases c3 : ∃ p, p < 8 ∧ v3 = nI p
      · obtain ⟨t, ht, rfl⟩ := c3
        by_cases c4 : kd f = 2
        · by_cases c5 : kd g = 2
          · have hzf := (ps_kok_2 (hK f hf).2 c4).2
            have hzg := (ps_kok_2 (hK g hg).2 c5).2
            exact ps_xjoin hK hX hf hg ht c4 c5 (fun r u' o => ps_yjoin hK hY hf hg ht c4 c5 (fun r' v' o' => ps_fin hK (fun q => Or.inr (Or.inr ⟨rfl, q, ps_z_aq _ (ps_z_aq _ ps_z_n (fun _ => ps_z_e hzf _)) (fun _ => ps_z_e hzg _)⟩)) o o'))
          · skip
            unfold wpX_join
            refine ps_xP1 hf (br_f ps_10 (ps_xP1 hg (br_f ps_10 (ps_xP1 ht (br_f ps_10 (⟨ps_in8 hf, ?_⟩))))))
            rw [ps_cl8 hf, ps_cl8 hg]
            refine br_t c4 ⟨ps_in8 hg, br_f c5 ?_⟩
            unfold wpY_join
            refine ps_yP1 hf (br_f ps_10 (ps_yP1 hg (br_f ps_10 (ps_yP1 ht (br_f ps_10 (⟨ps_in8 hf, ?_⟩))))))
            rw [ps_cl8 hf, ps_cl8 hg]
            exact br_t c4 ⟨ps_in8 hg, br_f c5 ⟨rfl, J⟩⟩
        · skip
          unfold wpX_join
          refine ps_xP1 hf (br_f ps_10 (ps_xP1 hg (br_f ps_10 (ps_xP1 ht (br_f ps_10 (⟨ps_in8 hf, ?_⟩))))))
          rw [ps_cl8 hf]
          refine br_f c4 ?_
          unfold wpY_join
          refine ps_yP1 hf (br_f ps_10 (ps_yP1 hg (br_f ps_10 (ps_yP1 ht (br_f ps_10 (⟨ps_in8 hf, ?_⟩))))))
          rw [ps_cl8 hf]
          exact br_f c4 ⟨rfl, J⟩
      · skip
        unfold wpX_join
        refine ps_xP1 hf (br_f ps_10 (ps_xP1 hg (br_f ps_10 (ps_xP0 c3 (br_t rfl ?_)))))
        unfold wpY_join
        exact ps_yP1 hf (br_f ps_10 (ps_yP1 hg (br_f ps_10 (ps_yP0 c3 (br_t rfl ⟨rfl, J⟩)))))
    · skip
      unfold wpX_join
      refine ps_xP1 hf (br_f ps_10 (ps_xP0 c2 (br_t rfl ?_)))
      unfold wpY_join
      exact ps_yP1 hf (br_f ps_10 (ps_yP0 c2 (br_t rfl ⟨rfl, J⟩)))
  · skip
    unfold wpX_join
    refine ps_xP0 c1 (br_t rfl ?_)
    unfold wpY_join
    exact ps_yP0 c1 (br_t rfl ⟨rfl, J⟩)
theorem i_vc_merge {k : Nat} {u : SX} {v : SY} (I : i_Rel k u v) (hk : k + 5 ≤ 2560) (v1 : Int32) (v2 : Int32) (v3 : Int32) (v4 : Int32) : wpX_merge (fun r u' => wpY_merge (fun r' v' => r' = r ∧ i_Rel (k + 5) u' v') v v1 v2 v3 v4) u v1 v2 v3 v4 := by
  obtain ⟨kd, sz, L, hK, ⟨ds, it, vl, di, dv, rfl, hX⟩, ⟨n, a, b, x, y, rfl, hY⟩⟩ := I
  have J : i_Rel (k + 5) (ds, kd, sz, it, vl, di, dv) (n, kd, sz, a, b, x, y) := ⟨kd, sz, L, hK, ⟨ds, it, vl, di, dv, rfl, hX⟩, ⟨n, a, b, x, y, rfl, hY⟩⟩
  by_cases c1 : ∃ p, p < 8 ∧ v1 = nI p
  · obtain ⟨f, hf, rfl⟩ := c1
    by_cases c2 : ∃ p, p < 8 ∧ v2 = nI p
    · obtain ⟨g, hg, rfl⟩ := c2
      by_cases c3 : ∃ p, p < 8 ∧ v4 = nI p
      · obtain ⟨t, ht, rfl⟩ := c3
        by_cases d1 : v3 < 0
        · skip
          unfold wpX_merge
          refine ps_xP1 hf (br_f ps_10 (ps_xP1 hg (br_f ps_10 (ps_xP1 ht (br_f ps_10 (br_t d1 ?_))))))
          unfold wpY_merge
          exact ps_yP1 hf (br_f ps_10 (ps_yP1 hg (br_f ps_10 (ps_yP1 ht (br_f ps_10 (br_t d1 ⟨rfl, J⟩))))))
        · by_cases d2 : v3 ≤ 5
          · by_cases c4 : kd f = 1
            · by_cases c5 : kd g = 1
              · obtain ⟨h, hh, rfl⟩ := nI_of2 (M := 5) (n := 5) (by decide) d1 d2
                have sf := (ps_kok_1 (hK f hf).2 c4).2
                have sg := (ps_kok_1 (hK g hg).2 c5).2
                have hLf := ps_K_le hK f hf
                have hLg := ps_K_le hK g hg
                have ml := ps_mg_len h ((L f).length + (L g).length) (L f) (L g)
                exact ps_xmerge hK hX hf hg ht (by omega) c4 c5 (by omega) (fun r u' o => ps_ymerge hK hY hf hg ht (by omega) c4 c5 (fun r' v' o' => ps_fin hK (fun q => Or.inr (Or.inl ⟨rfl, q, (ps_mg_ok h _ (L f) (L g) (Nat.le_refl _) sf sg).1⟩)) o o'))
              · skip
                unfold wpX_merge
                refine ps_xP1 hf (br_f ps_10 (ps_xP1 hg (br_f ps_10 (ps_xP1 ht (br_f ps_10 (br_f d1 (br_t d2 ⟨ps_in8 hf, ?_⟩)))))))
                rw [ps_cl8 hf, ps_cl8 hg]
                refine br_t c4 ⟨ps_in8 hg, br_f c5 ?_⟩
                unfold wpY_merge
                refine ps_yP1 hf (br_f ps_10 (ps_yP1 hg (br_f ps_10 (ps_yP1 ht (br_f ps_10 (br_f d1 (br_t d2 ⟨ps_in8 hf, ?_⟩)))))))
                rw [ps_cl8 hf, ps_cl8 hg]
                exact br_t c4 ⟨ps_in8 hg, br_f c5 ⟨rfl, J⟩⟩
            · skip
              unfold wpX_merge
              refine ps_xP1 hf (br_f ps_10 (ps_xP1 hg (br_f ps_10 (ps_xP1 ht (br_f ps_10 (br_f d1 (br_t d2 ⟨ps_in8 hf, ?_⟩)))))))
              rw [ps_cl8 hf]
              refine br_f c4 ?_
              unfold wpY_merge
              refine ps_yP1 hf (br_f ps_10 (ps_yP1 hg (br_f ps_10 (ps_yP1 ht (br_f ps_10 (br_f d1 (br_t d2 ⟨ps_in8 hf, ?_⟩)))))))
              rw [ps_cl8 hf]
              exact br_f c4 ⟨rfl, J⟩
          · skip
            unfold wpX_merge
            refine ps_xP1 hf (br_f ps_10 (ps_xP1 hg (br_f ps_10 (ps_xP1 ht (br_f ps_10 (br_f d1 (br_f d2 ?_)))))))
            unfold wpY_merge
            exact ps_yP1 hf (br_f ps_10 (ps_yP1 hg (br_f ps_10 (ps_yP1 ht (br_f ps_10 (br_f d1 (br_f d2 ⟨rfl, J⟩)))))))
      · skip
        unfold wpX_merge
        refine ps_xP1 hf (br_f ps_10 (ps_xP1 hg (br_f ps_10 (ps_xP0 c3 (br_t rfl ?_)))))
        unfold wpY_merge
        exact ps_yP1 hf (br_f ps_10 (ps_yP1 hg (br_f ps_10 (ps_yP0 c3 (br_t rfl ⟨rfl, J⟩)))))
    · skip
      unfold wpX_merge
      refine ps_xP1 hf (br_f ps_10 (ps_xP0 c2 (br_t rfl ?_)))
      unfold wpY_merge
      exact ps_yP1 hf (br_f ps_10 (ps_yP0 c2 (br_t rfl ⟨rfl, J⟩)))
  · skip
    unfold wpX_merge
    refine ps_xP0 c1 (br_t rfl ?_)
    unfold wpY_merge
    exact ps_yP0 c1 (br_t rfl ⟨rfl, J⟩)
theorem i_vc_convert {k : Nat} {u : SX} {v : SY} (I : i_Rel k u v) (hk : k + 5 ≤ 2560) (v1 : Int32) (v2 : Int32) (v3 : Int32) : wpX_convert (fun r u' => wpY_convert (fun r' v' => r' = r ∧ i_Rel (k + 5) u' v') v v1 v2 v3) u v1 v2 v3 := by
  obtain ⟨kd, sz, L, hK, ⟨ds, it, vl, di, dv, rfl, hX⟩, ⟨n, a, b, x, y, rfl, hY⟩⟩ := I
  have J : i_Rel (k + 5) (ds, kd, sz, it, vl, di, dv) (n, kd, sz, a, b, x, y) := ⟨kd, sz, L, hK, ⟨ds, it, vl, di, dv, rfl, hX⟩, ⟨n, a, b, x, y, rfl, hY⟩⟩
  by_cases c1 : ∃ p, p < 8 ∧ v1 = nI p
  · obtain ⟨f, hf, rfl⟩ := c1
    by_cases c2 : ∃ p, p < 8 ∧ v3 = nI p
    · obtain ⟨t, ht, rfl⟩ := c2
      by_cases d1 : v2 < 0
      · skip
        unfold wpX_convert
        refine ps_xP1 hf (br_f ps_10 (ps_xP1 ht (br_f ps_10 (br_t d1 ?_))))
        unfold wpY_convert
        exact ps_yP1 hf (br_f ps_10 (ps_yP1 ht (br_f ps_10 (br_t d1 ⟨rfl, J⟩))))
      · by_cases d2 : v2 ≤ 3
        · obtain ⟨w, hw, rfl⟩ := nI_of2 (M := 3) (n := 3) (by decide) d1 d2
          by_cases d3 : w < 2
          · by_cases c3 : kd f = 1
            · exact ps_xcv1 hK hX hf ht d3 c3 (fun r u' o => ps_ycv1 hK hY hf ht d3 c3 (fun r' v' o' => ps_fin hK (fun q => Or.inr (Or.inr ⟨rfl, q, ps_z_aq _ ps_z_n (fun _ => ps_z_1 _)⟩)) o o'))
            · have Yk : wpY_convert (fun r' v' => r' = -2 ∧ i_Rel (k + 5) (ds, kd, sz, it, vl, di, dv) v') (n, kd, sz, a, b, x, y) (nI f) (nI w) (nI t) := by
                unfold wpY_convert
                refine ps_yP1 hf (br_f ps_10 (ps_yP1 ht (br_f ps_10 (br_f d1 (br_t d2 ⟨ps_in8 hf, ?_⟩)))))
                rw [ps_cl8 hf]
                exact br_f (nI_ge (b := 2) (by omega) (by decide)) (br_f c3 ⟨rfl, J⟩)
              have g : wX_convert_41 (fun r u' => wpY_convert (fun r' v' => r' = r ∧ i_Rel (k + 5) u' v') (n, kd, sz, a, b, x, y) (nI f) (nI w) (nI t)) (nI f) (nI w) (nI t) 1 ds kd sz it vl di dv := by
                refine ⟨ps_in8 hf, br_f ps_10 ?_⟩
                rw [ps_cl8 hf]
                exact br_f c3 Yk
              unfold wpX_convert
              refine ps_xP1 hf (br_f ps_10 (ps_xP1 ht (br_f ps_10 (br_f d1 (br_t d2 ?_)))))
              exact pk_eq w 0 (fun _ => g) (fun c => br_t (by rw [show w = 1 by omega]; rfl) g)
          · by_cases c3 : kd f = 2
            · refine ps_xcv2 hK hX hf ht (by omega) (by omega) c3 (fun r u' o => ps_ycv2 hK hY hf ht (by omega) (by omega) c3 (fun r' v' o' => ?_))
              rw [← ps_txy w (L f)] at o'
              exact ps_fin hK (fun q => Or.inr (Or.inl ⟨rfl, q, ps_tx_srt w (L f) _⟩)) o o'
            · have Yk : wpY_convert (fun r' v' => r' = -2 ∧ i_Rel (k + 5) (ds, kd, sz, it, vl, di, dv) v') (n, kd, sz, a, b, x, y) (nI f) (nI w) (nI t) := by
                unfold wpY_convert
                refine ps_yP1 hf (br_f ps_10 (ps_yP1 ht (br_f ps_10 (br_f d1 (br_t d2 ⟨ps_in8 hf, ?_⟩)))))
                rw [ps_cl8 hf]
                exact br_t (nI_le (a := 2) (by omega) (by omega)) (br_f c3 ⟨rfl, J⟩)
              have g : wX_convert_41 (fun r u' => wpY_convert (fun r' v' => r' = r ∧ i_Rel (k + 5) u' v') (n, kd, sz, a, b, x, y) (nI f) (nI w) (nI t)) (nI f) (nI w) (nI t) 0 ds kd sz it vl di dv := by
                refine ⟨ps_in8 hf, br_t rfl ?_⟩
                rw [ps_cl8 hf]
                exact br_f c3 Yk
              unfold wpX_convert
              refine ps_xP1 hf (br_f ps_10 (ps_xP1 ht (br_f ps_10 (br_f d1 (br_t d2 ?_)))))
              exact pk_eq w 0 (fun c => absurd c (by omega)) (fun _ => pk_eq w 1 (fun c => absurd c (by omega)) (fun _ => g))
        · skip
          unfold wpX_convert
          refine ps_xP1 hf (br_f ps_10 (ps_xP1 ht (br_f ps_10 (br_f d1 (br_f d2 ?_)))))
          unfold wpY_convert
          exact ps_yP1 hf (br_f ps_10 (ps_yP1 ht (br_f ps_10 (br_f d1 (br_f d2 ⟨rfl, J⟩)))))
    · skip
      unfold wpX_convert
      refine ps_xP1 hf (br_f ps_10 (ps_xP0 c2 (br_t rfl ?_)))
      unfold wpY_convert
      exact ps_yP1 hf (br_f ps_10 (ps_yP0 c2 (br_t rfl ⟨rfl, J⟩)))
  · skip
    unfold wpX_convert
    refine ps_xP0 c1 (br_t rfl ?_)
    unfold wpY_convert
    exact ps_yP0 c1 (br_t rfl ⟨rfl, J⟩)
theorem i_vc_value {k : Nat} {u : SX} {v : SY} (I : i_Rel k u v) (hk : k + 5 ≤ 2560) (v1 : Int32) (v2 : Int32) : wpX_value (fun r => wpY_value (fun r' => r' = r ∧ i_Rel (k + 5) u v) v v1 v2) u v1 v2 := by
  obtain ⟨kd, sz, L, hK, ⟨ds, it, vl, di, dv, rfl, hX⟩, ⟨n, a, b, x, y, rfl, hY⟩⟩ := I
  have J : i_Rel (k + 5) (ds, kd, sz, it, vl, di, dv) (n, kd, sz, a, b, x, y) := ⟨kd, sz, L, hK, ⟨ds, it, vl, di, dv, rfl, hX⟩, ⟨n, a, b, x, y, rfl, hY⟩⟩
  by_cases c1 : ∃ p, p < 8 ∧ v1 = nI p
  · obtain ⟨f, hf, rfl⟩ := c1
    by_cases c3 : kd f = 1
    · exact ps_xval hK hX hf c3 (ps_yval hK hY hf c3 ⟨rfl, J⟩)
    · unfold wpX_value
      exact ps_xO hf (fun q => absurd q c3) (fun _ => br_t rfl (ps_yval_k hf c3 ⟨rfl, J⟩))
  · unfold wpX_value
    exact ps_xO0 c1 (br_t rfl (ps_yval_p c1 ⟨rfl, J⟩))
theorem i_vc_key {k : Nat} {u : SX} {v : SY} (I : i_Rel k u v) (hk : k + 5 ≤ 2560) (v1 : Int32) (v2 : Int32) : wpX_key (fun r => wpY_key (fun r' => r' = r ∧ i_Rel (k + 5) u v) v v1 v2) u v1 v2 := by
  obtain ⟨kd, sz, L, hK, ⟨ds, it, vl, di, dv, rfl, hX⟩, ⟨n, a, b, x, y, rfl, hY⟩⟩ := I
  have J : i_Rel (k + 5) (ds, kd, sz, it, vl, di, dv) (n, kd, sz, a, b, x, y) := ⟨kd, sz, L, hK, ⟨ds, it, vl, di, dv, rfl, hX⟩, ⟨n, a, b, x, y, rfl, hY⟩⟩
  unfold wpX_key
  by_cases c1 : ∃ p, p < 8 ∧ v1 = nI p
  · obtain ⟨f, hf, rfl⟩ := c1
    by_cases c3 : kd f = 1
    · by_cases c4 : v2 < 0
      · exact ps_xitem_n hf c3 c4 (ps_ykey_n hf c3 c4 ⟨rfl, J⟩)
      · obtain ⟨j, hj, rfl⟩ := nI_of c4
        exact ps_xitem hK hX hf c3 hj (fun q => ps_ykey hK hY hf c3 hj (fun _ => ⟨rfl, J⟩) (fun z => absurd q z)) (fun q => ps_ykey hK hY hf c3 hj (fun z => absurd z q) (fun _ => ⟨rfl, J⟩))
    · exact ps_xitem_k hf c3 (ps_ykey_k hf c3 ⟨rfl, J⟩)
  · exact ps_xitem_p c1 (ps_ykey_p c1 ⟨rfl, J⟩)
theorem i_vc_at {k : Nat} {u : SX} {v : SY} (I : i_Rel k u v) (hk : k + 5 ≤ 2560) (v1 : Int32) (v2 : Int32) : wpX_at (fun r => wpY_at (fun r' => r' = r ∧ i_Rel (k + 5) u v) v v1 v2) u v1 v2 := by
  obtain ⟨kd, sz, L, hK, ⟨ds, it, vl, di, dv, rfl, hX⟩, ⟨n, a, b, x, y, rfl, hY⟩⟩ := I
  have J : i_Rel (k + 5) (ds, kd, sz, it, vl, di, dv) (n, kd, sz, a, b, x, y) := ⟨kd, sz, L, hK, ⟨ds, it, vl, di, dv, rfl, hX⟩, ⟨n, a, b, x, y, rfl, hY⟩⟩
  unfold wpX_at
  by_cases c1 : ∃ p, p < 8 ∧ v1 = nI p
  · obtain ⟨f, hf, rfl⟩ := c1
    by_cases c3 : kd f = 2
    · by_cases c4 : v2 < 0
      · exact ps_xitem_n hf c3 c4 (ps_yat_n hf c3 c4 ⟨rfl, J⟩)
      · obtain ⟨j, hj, rfl⟩ := nI_of c4
        exact ps_xitem hK hX hf c3 hj (fun q => ps_yat hK hY hf c3 hj (fun _ => ⟨rfl, J⟩) (fun z => absurd q z)) (fun q => ps_yat hK hY hf c3 hj (fun z => absurd z q) (fun _ => ⟨rfl, J⟩))
    · exact ps_xitem_k hf c3 (ps_yat_k hf c3 ⟨rfl, J⟩)
  · exact ps_xitem_p c1 (ps_yat_p c1 ⟨rfl, J⟩)
theorem i_vc_sum {k : Nat} {u : SX} {v : SY} (I : i_Rel k u v) (hk : k + 5 ≤ 2560) (v1 : Int32) (v2 : Int32) (v3 : Int32) : wpX_sum (fun r => wpY_sum (fun r' => r' = r ∧ i_Rel (k + 5) u v) v v1 v2 v3) u v1 v2 v3 := by
  obtain ⟨kd, sz, L, hK, ⟨ds, it, vl, di, dv, rfl, hX⟩, ⟨n, a, b, x, y, rfl, hY⟩⟩ := I
  have J : i_Rel (k + 5) (ds, kd, sz, it, vl, di, dv) (n, kd, sz, a, b, x, y) := ⟨kd, sz, L, hK, ⟨ds, it, vl, di, dv, rfl, hX⟩, ⟨n, a, b, x, y, rfl, hY⟩⟩
  by_cases c1 : ∃ p, p < 8 ∧ v1 = nI p
  · obtain ⟨f, hf, rfl⟩ := c1
    by_cases c3 : kd f = 2
    · exact ps_xsum hK hX hf c3 (ps_ysum hK hY hf c3 ⟨rfl, J⟩)
    · unfold wpX_sum
      refine ps_xO hf (fun q => absurd q c3) (fun _ => br_t rfl ?_)
      unfold wpY_sum
      exact ps_yO hf (fun q => absurd q c3) (fun _ => br_t rfl ⟨rfl, J⟩)
  · unfold wpX_sum
    refine ps_xO0 c1 (br_t rfl ?_)
    unfold wpY_sum
    exact ps_yO0 c1 (br_t rfl ⟨rfl, J⟩)
theorem i_vc_about {k : Nat} {u : SX} {v : SY} (I : i_Rel k u v) (hk : k + 5 ≤ 2560) (v1 : Int32) (v2 : Int32) : wpX_about (fun r => wpY_about (fun r' => r' = r ∧ i_Rel (k + 5) u v) v v1 v2) u v1 v2 := by
  obtain ⟨kd, sz, L, hK, ⟨ds, it, vl, di, dv, rfl, hX⟩, ⟨n, a, b, x, y, rfl, hY⟩⟩ := I
  have J : i_Rel (k + 5) (ds, kd, sz, it, vl, di, dv) (n, kd, sz, a, b, x, y) := ⟨kd, sz, L, hK, ⟨ds, it, vl, di, dv, rfl, hX⟩, ⟨n, a, b, x, y, rfl, hY⟩⟩
  by_cases c1 : ∃ p, p < 8 ∧ v1 = nI p
  · obtain ⟨f, hf, rfl⟩ := c1
    by_cases d1 : v2 < 0
    · skip
      unfold wpX_about
      refine ps_xP1 hf (br_f ps_10 (br_t d1 ?_))
      unfold wpY_about
      exact ps_yP1 hf (br_f ps_10 (br_t d1 ⟨rfl, J⟩))
    · by_cases d2 : v2 ≤ 1
      · obtain ⟨w, hw, rfl⟩ := nI_of2 (M := 1) (n := 1) (by decide) d1 d2
        exact ps_xabout hf (by omega) (ps_yabout hf (by omega) ⟨rfl, J⟩)
      · skip
        unfold wpX_about
        refine ps_xP1 hf (br_f ps_10 (br_f d1 (br_f d2 ?_)))
        unfold wpY_about
        exact ps_yP1 hf (br_f ps_10 (br_f d1 (br_f d2 ⟨rfl, J⟩)))
  · skip
    unfold wpX_about
    refine ps_xP0 c1 (br_t rfl ?_)
    unfold wpY_about
    exact ps_yP0 c1 (br_t rfl ⟨rfl, J⟩)
theorem i_vc_same {k : Nat} {u : SX} {v : SY} (I : i_Rel k u v) (hk : k + 5 ≤ 2560) (v1 : Int32) (v2 : Int32) : wpX_same (fun r => wpY_same (fun r' => r' = r ∧ i_Rel (k + 5) u v) v v1 v2) u v1 v2 := by
  obtain ⟨kd, sz, L, hK, ⟨ds, it, vl, di, dv, rfl, hX⟩, ⟨n, a, b, x, y, rfl, hY⟩⟩ := I
  have J : i_Rel (k + 5) (ds, kd, sz, it, vl, di, dv) (n, kd, sz, a, b, x, y) := ⟨kd, sz, L, hK, ⟨ds, it, vl, di, dv, rfl, hX⟩, ⟨n, a, b, x, y, rfl, hY⟩⟩
  by_cases c1 : ∃ p, p < 8 ∧ v1 = nI p
  · obtain ⟨f, hf, rfl⟩ := c1
    by_cases c2 : ∃ p, p < 8 ∧ v2 = nI p
    · obtain ⟨g, hg, rfl⟩ := c2
      by_cases c3 : kd f = 0
      · skip
        unfold wpX_same
        refine ps_xP1 hf (br_f ps_10 (ps_xP1 hg (br_f ps_10 (⟨ps_in8 hf, ?_⟩))))
        rw [ps_cl8 hf]
        refine br_t c3 ?_
        unfold wpY_same
        refine ps_yP1 hf (br_f ps_10 (ps_yP1 hg (br_f ps_10 (⟨ps_in8 hf, ?_⟩))))
        rw [ps_cl8 hf]
        exact br_t c3 ⟨rfl, J⟩
      · by_cases c4 : kd f = kd g
        · by_cases c5 : sz f = sz g
          · exact ps_xsame hK hX hf hg c3 c4 c5 (fun q => ps_ysame hK hY hf hg c3 c4 c5 (fun _ => ⟨rfl, J⟩) (fun z => absurd q z)) (fun q => ps_ysame hK hY hf hg c3 c4 c5 (fun z => absurd z q) (fun _ => ⟨rfl, J⟩))
          · skip
            unfold wpX_same
            refine ps_xP1 hf (br_f ps_10 (ps_xP1 hg (br_f ps_10 (⟨ps_in8 hf, ?_⟩))))
            rw [ps_cl8 hf, ps_cl8 hg]
            refine br_f c3 ⟨ps_in8 hf, ps_in8 hg, br_t c4 ⟨ps_in8 hf, ps_in8 hg, br_f c5 ?_⟩⟩
            unfold wpY_same
            refine ps_yP1 hf (br_f ps_10 (ps_yP1 hg (br_f ps_10 (⟨ps_in8 hf, ?_⟩))))
            rw [ps_cl8 hf, ps_cl8 hg]
            exact br_f c3 ⟨ps_in8 hf, ps_in8 hg, br_t c4 ⟨ps_in8 hf, ps_in8 hg, br_f c5 ⟨rfl, J⟩⟩⟩
        · skip
          unfold wpX_same
          refine ps_xP1 hf (br_f ps_10 (ps_xP1 hg (br_f ps_10 (⟨ps_in8 hf, ?_⟩))))
          rw [ps_cl8 hf, ps_cl8 hg]
          refine br_f c3 ⟨ps_in8 hf, ps_in8 hg, br_f c4 ?_⟩
          unfold wpY_same
          refine ps_yP1 hf (br_f ps_10 (ps_yP1 hg (br_f ps_10 (⟨ps_in8 hf, ?_⟩))))
          rw [ps_cl8 hf, ps_cl8 hg]
          exact br_f c3 ⟨ps_in8 hf, ps_in8 hg, br_f c4 ⟨rfl, J⟩⟩
    · skip
      unfold wpX_same
      refine ps_xP1 hf (br_f ps_10 (ps_xP0 c2 (br_t rfl ?_)))
      unfold wpY_same
      exact ps_yP1 hf (br_f ps_10 (ps_yP0 c2 (br_t rfl ⟨rfl, J⟩)))
  · skip
    unfold wpX_same
    refine ps_xP0 c1 (br_t rfl ?_)
    unfold wpY_same
    exact ps_yP0 c1 (br_t rfl ⟨rfl, J⟩)
end
