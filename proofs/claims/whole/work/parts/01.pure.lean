/-- a pair of ints: an element of a collection (key and value; a list's value is 0) -/
abbrev ps_E := Int32 × Int32

def ps_at : List ps_E → Nat → ps_E
  | [], _ => (0, 0)
  | e :: _, 0 => e
  | _ :: t, i + 1 => ps_at t i

theorem ps_at_l : ∀ (A B : List ps_E) (i : Nat), i < A.length → ps_at (A ++ B) i = ps_at A i
  | [], _, _, h => absurd h (Nat.not_lt_zero _)
  | _ :: _, _, 0, _ => rfl
  | _ :: t, B, i + 1, h => ps_at_l t B i (Nat.lt_of_succ_lt_succ h)
theorem ps_at_r : ∀ (A B : List ps_E) (i : Nat), ps_at (A ++ B) (A.length + i) = ps_at B i
  | [], B, i => by simp
  | _ :: t, B, i => by
    have e : (t.length + 1) + i = (t.length + i) + 1 := by omega
    simp only [List.length_cons, List.cons_append, e]
    exact ps_at_r t B i
theorem ps_at_n (A : List ps_E) (e : ps_E) : ps_at (A ++ [e]) A.length = e := ps_at_r A [e] 0
theorem ps_at_tk : ∀ (D : List ps_E) (n i : Nat), i < n → ps_at (D.take n) i = ps_at D i
  | [], _, _, _ => by simp
  | _ :: _, 0, _, h => absurd h (Nat.not_lt_zero _)
  | _ :: _, _ + 1, 0, _ => rfl
  | _ :: t, n + 1, i + 1, h => ps_at_tk t n i (Nat.lt_of_succ_lt_succ h)
theorem ps_at_nil (i : Nat) : ps_at [] i = (0, 0) := by cases i <;> rfl
theorem ps_at_dr : ∀ (D : List ps_E) (n i : Nat), ps_at (D.drop n) i = ps_at D (n + i)
  | [], n, i => by simp [ps_at_nil]
  | _ :: _, 0, i => by simp
  | _ :: t, n + 1, i => by
    have e : (n + 1) + i = (n + i) + 1 := by omega
    rw [e, List.drop_succ_cons]
    exact ps_at_dr t n i
theorem ps_tk1 : ∀ (D : List ps_E) (i : Nat), i < D.length → D.take (i + 1) = D.take i ++ [ps_at D i]
  | [], _, h => absurd h (Nat.not_lt_zero _)
  | _ :: _, 0, _ => by simp [ps_at]
  | e :: t, i + 1, h => by
    rw [List.take_succ_cons, List.take_succ_cons, ps_tk1 t i (Nat.lt_of_succ_lt_succ h)]
    rfl
theorem ps_dr1 : ∀ (D : List ps_E) (i : Nat), i < D.length → D.drop i = ps_at D i :: D.drop (i + 1)
  | [], _, h => absurd h (Nat.not_lt_zero _)
  | _ :: _, 0, _ => rfl
  | _ :: t, i + 1, h => by
    rw [List.drop_succ_cons, List.drop_succ_cons]
    exact ps_dr1 t i (Nat.lt_of_succ_lt_succ h)
theorem ps_at_mem : ∀ (D : List ps_E) (i : Nat), i < D.length → ps_at D i ∈ D
  | [], _, h => absurd h (Nat.not_lt_zero _)
  | _ :: _, 0, _ => List.mem_cons_self
  | _ :: t, i + 1, h => List.mem_cons_of_mem _ (ps_at_mem t i (Nat.lt_of_succ_lt_succ h))
theorem ps_mem_at : ∀ (D : List ps_E) (e : ps_E), e ∈ D → ∃ i, i < D.length ∧ ps_at D i = e
  | [], _, h => absurd h (List.not_mem_nil)
  | d :: t, e, h => by
    rcases List.mem_cons.mp h with h | h
    · exact ⟨0, Nat.zero_lt_succ _, h.symm⟩
    · obtain ⟨i, hi, he⟩ := ps_mem_at t e h
      exact ⟨i + 1, Nat.succ_lt_succ hi, he⟩
theorem ps_ext : ∀ (A B : List ps_E), A.length = B.length → (∀ i, i < A.length → ps_at A i = ps_at B i) → A = B
  | [], [], _, _ => rfl
  | [], _ :: _, h, _ => absurd h (by simp)
  | _ :: _, [], h, _ => absurd h (by simp)
  | a :: s, b :: t, h, f => by
    have e : a = b := f 0 (Nat.zero_lt_succ _)
    have r : s = t := ps_ext s t (Nat.succ.inj h) (fun i hi => f (i + 1) (Nat.succ_lt_succ hi))
    rw [e, r]

/-- how many keys, from the front on, are below k -/
def ps_kb (k : Int32) : List ps_E → Nat
  | [] => 0
  | e :: t => if e.1 < k then ps_kb k t + 1 else 0
theorem ps_kb_le (k : Int32) : ∀ D : List ps_E, ps_kb k D ≤ D.length
  | [] => Nat.le_refl _
  | e :: t => by
    have := ps_kb_le k t
    unfold ps_kb
    split
    · simpa using this
    · exact Nat.zero_le _
theorem ps_kb_lt (k : Int32) : ∀ (D : List ps_E) (i : Nat), i < ps_kb k D → (ps_at D i).1 < k
  | [], _, h => absurd h (Nat.not_lt_zero _)
  | e :: t, i, h => by
    unfold ps_kb at h
    by_cases c : e.1 < k
    · rw [if_pos c] at h
      cases i with
      | zero => exact c
      | succ i => exact ps_kb_lt k t i (Nat.lt_of_succ_lt_succ h)
    · rw [if_neg c] at h
      exact absurd h (Nat.not_lt_zero _)
theorem ps_kb_st (k : Int32) : ∀ D : List ps_E, ps_kb k D < D.length → ¬ (ps_at D (ps_kb k D)).1 < k
  | [], h => absurd h (Nat.not_lt_zero _)
  | e :: t, h => by
    unfold ps_kb at h ⊢
    by_cases c : e.1 < k
    · rw [if_pos c] at h ⊢
      exact ps_kb_st k t (Nat.lt_of_succ_lt_succ h)
    · rw [if_neg c]
      exact c
/-- the first stop is the count: what a scan finds -/
theorem ps_kb_un (k : Int32) : ∀ (D : List ps_E) (s : Nat), s ≤ D.length → (∀ i, i < s → (ps_at D i).1 < k) → (s < D.length → ¬ (ps_at D s).1 < k) → ps_kb k D = s
  | [], s, h, _, _ => (Nat.le_zero.mp h).symm
  | e :: t, 0, _, _, g => by
    unfold ps_kb
    exact if_neg (g (Nat.zero_lt_succ _))
  | e :: t, s + 1, h, f, g => by
    unfold ps_kb
    have f0 : e.1 < k := f 0 (Nat.zero_lt_succ _)
    rw [if_pos f0]
    rw [ps_kb_un k t s (Nat.le_of_succ_le_succ h) (fun i hi => f (i + 1) (Nat.succ_lt_succ hi)) (fun hs => g (Nat.succ_lt_succ hs))]

def ps_ins (k v : Int32) : List ps_E → List ps_E
  | [] => [(k, v)]
  | e :: t => if e.1 < k then e :: ps_ins k v t else if e.1 = k then (k, v) :: t else (k, v) :: e :: t
def ps_rm (k : Int32) : List ps_E → List ps_E
  | [] => []
  | e :: t => if e.1 < k then e :: ps_rm k t else if e.1 = k then t else e :: t
def ps_get (k : Int32) : List ps_E → Option Int32
  | [] => none
  | e :: t => if e.1 = k then some e.2 else ps_get k t
def ps_srt : List ps_E → Prop
  | [] => True
  | e :: t => (∀ x, x ∈ t → e.1 < x.1) ∧ ps_srt t

theorem ps_ne {a b : Int32} (h : a < b) : ¬ a = b := fun e => by rw [e] at h; exact absurd h Int32.lt_irrefl
theorem ps_ne' {a b : Int32} (h : a < b) : ¬ b = a := fun e => by rw [e] at h; exact absurd h Int32.lt_irrefl
theorem ps_gt {a b : Int32} (h : ¬ a < b) (e : ¬ a = b) : b < a := by
  rcases Int32.lt_or_lt_of_ne e with z | z
  · exact absurd z h
  · exact z

/-- there is the key k at its spot -/
def ps_hit (k : Int32) (D : List ps_E) : Prop := ps_kb k D < D.length ∧ (ps_at D (ps_kb k D)).1 = k

theorem ps_hit_lt {k : Int32} {e : ps_E} {t : List ps_E} (c : e.1 < k) : ps_hit k (e :: t) ↔ ps_hit k t := by
  unfold ps_hit
  have z : ps_kb k (e :: t) = ps_kb k t + 1 := by rw [ps_kb]; exact if_pos c
  rw [z]
  exact ⟨fun h => ⟨Nat.lt_of_succ_lt_succ h.1, h.2⟩, fun h => ⟨Nat.succ_lt_succ h.1, h.2⟩⟩
theorem ps_hit_z {k : Int32} {e : ps_E} {t : List ps_E} (c : ¬ e.1 < k) : ps_hit k (e :: t) ↔ e.1 = k := by
  unfold ps_hit
  have z : ps_kb k (e :: t) = 0 := by rw [ps_kb]; exact if_neg c
  rw [z]
  exact ⟨fun h => h.2, fun h => ⟨Nat.zero_lt_succ _, h⟩⟩
theorem ps_hit_n {k : Int32} : ¬ ps_hit k [] := fun h => absurd h.1 (Nat.not_lt_zero _)

/-- what is left behind the spot of k, without k -/
theorem ps_ins_y (k v : Int32) : ∀ D : List ps_E, ps_hit k D → ps_ins k v D = D.take (ps_kb k D) ++ (k, v) :: D.drop (ps_kb k D + 1)
  | [], h => absurd h ps_hit_n
  | e :: t, h => by
    by_cases c : e.1 < k
    · have z : ps_kb k (e :: t) = ps_kb k t + 1 := by rw [ps_kb]; exact if_pos c
      rw [z, ps_ins, if_pos c, ps_ins_y k v t ((ps_hit_lt c).mp h)]
      rfl
    · have z : ps_kb k (e :: t) = 0 := by rw [ps_kb]; exact if_neg c
      rw [z, ps_ins, if_neg c, if_pos ((ps_hit_z c).mp h)]
      rfl
theorem ps_ins_n (k v : Int32) : ∀ D : List ps_E, ¬ ps_hit k D → ps_ins k v D = D.take (ps_kb k D) ++ (k, v) :: D.drop (ps_kb k D)
  | [], _ => rfl
  | e :: t, h => by
    by_cases c : e.1 < k
    · have z : ps_kb k (e :: t) = ps_kb k t + 1 := by rw [ps_kb]; exact if_pos c
      rw [z, ps_ins, if_pos c, ps_ins_n k v t (fun q => h ((ps_hit_lt c).mpr q))]
      rfl
    · have z : ps_kb k (e :: t) = 0 := by rw [ps_kb]; exact if_neg c
      rw [z, ps_ins, if_neg c, if_neg (fun q => h ((ps_hit_z c).mpr q))]
      rfl
theorem ps_rm_y (k : Int32) : ∀ D : List ps_E, ps_hit k D → ps_rm k D = D.take (ps_kb k D) ++ D.drop (ps_kb k D + 1)
  | [], h => absurd h ps_hit_n
  | e :: t, h => by
    by_cases c : e.1 < k
    · have z : ps_kb k (e :: t) = ps_kb k t + 1 := by rw [ps_kb]; exact if_pos c
      rw [z, ps_rm, if_pos c, ps_rm_y k t ((ps_hit_lt c).mp h)]
      rfl
    · have z : ps_kb k (e :: t) = 0 := by rw [ps_kb]; exact if_neg c
      rw [z, ps_rm, if_neg c, if_pos ((ps_hit_z c).mp h)]
      rfl
theorem ps_rm_n (k : Int32) : ∀ D : List ps_E, ¬ ps_hit k D → ps_rm k D = D.take (ps_kb k D) ++ D.drop (ps_kb k D)
  | [], _ => rfl
  | e :: t, h => by
    by_cases c : e.1 < k
    · have z : ps_kb k (e :: t) = ps_kb k t + 1 := by rw [ps_kb]; exact if_pos c
      rw [z, ps_rm, if_pos c, ps_rm_n k t (fun q => h ((ps_hit_lt c).mpr q))]
      rfl
    · have z : ps_kb k (e :: t) = 0 := by rw [ps_kb]; exact if_neg c
      rw [z, ps_rm, if_neg c, if_neg (fun q => h ((ps_hit_z c).mpr q))]
      rfl

theorem ps_ins_mem (k v : Int32) : ∀ (D : List ps_E) (x : ps_E), x ∈ ps_ins k v D → x = (k, v) ∨ x ∈ D
  | [], x, h => Or.inl (List.mem_singleton.mp h)
  | e :: t, x, h => by
    unfold ps_ins at h
    by_cases c : e.1 < k
    · rw [if_pos c] at h
      rcases List.mem_cons.mp h with h | h
      · exact Or.inr (h ▸ List.mem_cons_self)
      · rcases ps_ins_mem k v t x h with h | h
        · exact Or.inl h
        · exact Or.inr (List.mem_cons_of_mem _ h)
    · rw [if_neg c] at h
      by_cases q : e.1 = k
      · rw [if_pos q] at h
        rcases List.mem_cons.mp h with h | h
        · exact Or.inl h
        · exact Or.inr (List.mem_cons_of_mem _ h)
      · rw [if_neg q] at h
        rcases List.mem_cons.mp h with h | h
        · exact Or.inl h
        · exact Or.inr h
theorem ps_ins_srt (k v : Int32) : ∀ D : List ps_E, ps_srt D → ps_srt (ps_ins k v D)
  | [], _ => ⟨fun x hx => absurd hx List.not_mem_nil, True.intro⟩
  | e :: t, h => by
    unfold ps_ins
    by_cases c : e.1 < k
    · rw [if_pos c]
      refine ⟨fun x hx => ?_, ps_ins_srt k v t h.2⟩
      rcases ps_ins_mem k v t x hx with hx | hx
      · rw [hx]; exact c
      · exact h.1 x hx
    · rw [if_neg c]
      by_cases q : e.1 = k
      · rw [if_pos q]
        exact ⟨fun x hx => by rw [← q]; exact h.1 x hx, h.2⟩
      · rw [if_neg q]
        refine ⟨fun x hx => ?_, h⟩
        have g : k < e.1 := ps_gt c q
        rcases List.mem_cons.mp hx with hx | hx
        · rw [hx]; exact g
        · exact Int32.lt_trans g (h.1 x hx)
theorem ps_ins_len (k v : Int32) : ∀ D : List ps_E, (ps_ins k v D).length ≤ D.length + 1
  | [] => Nat.le_refl _
  | e :: t => by
    unfold ps_ins
    split
    · have := ps_ins_len k v t
      simpa using this
    · split <;> simp
theorem ps_ins_get (k v j : Int32) : ∀ D : List ps_E, ps_get j (ps_ins k v D) = if j = k then some v else ps_get j D
  | [] => by
    unfold ps_ins ps_get ps_get
    by_cases q : k = j
    · rw [if_pos q, if_pos q.symm]
    · rw [if_neg q, if_neg (fun z => q z.symm)]
  | e :: t => by
    unfold ps_ins
    by_cases c : e.1 < k
    · rw [if_pos c, ps_get, ps_ins_get k v j t, ps_get]
      by_cases q : e.1 = j
      · rw [if_pos q, if_pos q, if_neg (fun z => ps_ne c (q.trans z))]
      · rw [if_neg q, if_neg q]
    · rw [if_neg c]
      by_cases q : e.1 = k
      · rw [if_pos q, ps_get, ps_get]
        by_cases z : k = j
        · rw [if_pos z, if_pos z.symm]
        · rw [if_neg z, if_neg (fun y => z y.symm), if_neg (fun y => z (q.symm.trans y))]
      · rw [if_neg q, ps_get]
        by_cases z : k = j
        · rw [if_pos z, if_pos z.symm]
        · rw [if_neg z, if_neg (fun y => z y.symm)]
/-- nothing is there below or beside sorted keys -/
theorem ps_get_no (j : Int32) : ∀ D : List ps_E, (∀ x, x ∈ D → ¬ x.1 = j) → ps_get j D = none
  | [], _ => rfl
  | e :: t, h => by
    rw [ps_get, if_neg (h e List.mem_cons_self)]
    exact ps_get_no j t (fun x hx => h x (List.mem_cons_of_mem _ hx))
theorem ps_get_mem (j v : Int32) : ∀ D : List ps_E, ps_get j D = some v → (j, v) ∈ D
  | [], h => by simp [ps_get] at h
  | e :: t, h => by
    rw [ps_get] at h
    by_cases q : e.1 = j
    · rw [if_pos q] at h
      have : e = (j, v) := by
        cases e
        simp only [Option.some.injEq] at h
        exact Prod.ext q h
      rw [this]; exact List.mem_cons_self
    · rw [if_neg q] at h
      exact List.mem_cons_of_mem _ (ps_get_mem j v t h)
theorem ps_get_tl {e : ps_E} {t : List ps_E} (h : ps_srt (e :: t)) : ps_get e.1 t = none :=
  ps_get_no _ _ (fun x hx => ps_ne' (h.1 x hx))
theorem ps_rm_mem (k : Int32) : ∀ (D : List ps_E) (x : ps_E), x ∈ ps_rm k D → x ∈ D
  | [], x, h => h
  | e :: t, x, h => by
    unfold ps_rm at h
    by_cases c : e.1 < k
    · rw [if_pos c] at h
      rcases List.mem_cons.mp h with h | h
      · exact h ▸ List.mem_cons_self
      · exact List.mem_cons_of_mem _ (ps_rm_mem k t x h)
    · rw [if_neg c] at h
      by_cases q : e.1 = k
      · rw [if_pos q] at h
        exact List.mem_cons_of_mem _ h
      · rw [if_neg q] at h
        exact h
theorem ps_rm_srt (k : Int32) : ∀ D : List ps_E, ps_srt D → ps_srt (ps_rm k D)
  | [], _ => True.intro
  | e :: t, h => by
    unfold ps_rm
    by_cases c : e.1 < k
    · rw [if_pos c]
      exact ⟨fun x hx => h.1 x (ps_rm_mem k t x hx), ps_rm_srt k t h.2⟩
    · rw [if_neg c]
      by_cases q : e.1 = k
      · rw [if_pos q]; exact h.2
      · rw [if_neg q]; exact h
theorem ps_rm_get (k j : Int32) : ∀ D : List ps_E, ps_srt D → ps_get j (ps_rm k D) = if j = k then none else ps_get j D
  | [], _ => by
    unfold ps_rm ps_get
    split <;> rfl
  | e :: t, h => by
    unfold ps_rm
    by_cases c : e.1 < k
    · rw [if_pos c, ps_get, ps_rm_get k j t h.2, ps_get]
      by_cases q : e.1 = j
      · rw [if_pos q, if_pos q, if_neg (fun z => ps_ne c (q.trans z))]
      · rw [if_neg q, if_neg q]
    · rw [if_neg c]
      by_cases q : e.1 = k
      · rw [if_pos q]
        by_cases z : j = k
        · rw [if_pos z, z, ← q]; exact ps_get_tl h
        · rw [if_neg z, ps_get, if_neg (fun y => z (y.symm.trans q))]
      · rw [if_neg q]
        by_cases z : j = k
        · rw [if_pos z, z]
          refine ps_get_no _ _ (fun x hx => ?_)
          have g : k < e.1 := ps_gt c q
          rcases List.mem_cons.mp hx with hx | hx
          · rw [hx]; exact q
          · exact ps_ne' (Int32.lt_trans g (h.1 x hx))
        · rw [if_neg z]

/-- two risings with the same look-ups are one -/
theorem ps_sext : ∀ A B : List ps_E, ps_srt A → ps_srt B → (∀ j, ps_get j A = ps_get j B) → A = B
  | [], [], _, _, _ => rfl
  | [], f :: t, _, _, h => by
    have := h f.1
    rw [ps_get, ps_get, if_pos rfl] at this
    cases this
  | e :: s, [], _, _, h => by
    have := h e.1
    rw [ps_get, ps_get, if_pos rfl] at this
    cases this
  | e :: s, f :: t, ha, hb, h => by
    have k1 : ¬ e.1 < f.1 := fun c => by
      have q := h e.1
      rw [ps_get, if_pos rfl] at q
      have n : ps_get e.1 (f :: t) = none := ps_get_no _ _ (fun x hx => by
        rcases List.mem_cons.mp hx with hx | hx
        · rw [hx]; exact ps_ne' c
        · exact ps_ne' (Int32.lt_trans c (hb.1 x hx)))
      rw [n] at q
      cases q
    have k2 : ¬ f.1 < e.1 := fun c => by
      have q := h f.1
      have n : ps_get f.1 (e :: s) = none := ps_get_no _ _ (fun x hx => by
        rcases List.mem_cons.mp hx with hx | hx
        · rw [hx]; exact ps_ne' c
        · exact ps_ne' (Int32.lt_trans c (ha.1 x hx)))
      rw [n, ps_get, if_pos rfl] at q
      cases q
    have k : e.1 = f.1 := by
      by_cases z : e.1 = f.1
      · exact z
      · exact absurd (ps_gt k1 z) k2
    have w : e.2 = f.2 := by
      have q := h e.1
      rw [ps_get, if_pos rfl, ps_get, if_pos k.symm] at q
      exact Option.some.inj q
    have r : s = t := by
      refine ps_sext s t ha.2 hb.2 (fun j => ?_)
      by_cases z : e.1 = j
      · have a1 : ps_get j s = none := by rw [← z]; exact ps_get_tl ha
        have a2 : ps_get j t = none := by rw [← z, k]; exact ps_get_tl hb
        rw [a1, a2]
      · have q := h j
        rw [ps_get, if_neg z, ps_get, if_neg (fun y => z (k.trans y))] at q
        exact q
    rw [r, Prod.ext k w]

/-- one turn of the reference's loops: an element goes in, with a value of its own, or not -/
def ps_st (phi : Int32 → Int32 → Option Int32) (D : List ps_E) (e : ps_E) : List ps_E :=
  match phi e.1 e.2 with
  | none => D
  | some z => ps_ins e.1 z D
def ps_fo (phi : Int32 → Int32 → Option Int32) (D : List ps_E) (L : List ps_E) : List ps_E := L.foldl (ps_st phi) D
theorem ps_fo_1 (phi : Int32 → Int32 → Option Int32) (D L : List ps_E) (i : Nat) (h : i < L.length) :
    ps_fo phi D (L.take (i + 1)) = ps_st phi (ps_fo phi D (L.take i)) (ps_at L i) := by
  unfold ps_fo
  rw [ps_tk1 L i h, List.foldl_append]
  rfl
theorem ps_st_n {phi : Int32 → Int32 → Option Int32} {D : List ps_E} {e : ps_E} (h : phi e.1 e.2 = none) : ps_st phi D e = D := by
  unfold ps_st; rw [h]
theorem ps_st_s {phi : Int32 → Int32 → Option Int32} {D : List ps_E} {e : ps_E} {z : Int32} (h : phi e.1 e.2 = some z) : ps_st phi D e = ps_ins e.1 z D := by
  unfold ps_st; rw [h]
theorem ps_st_srt {phi : Int32 → Int32 → Option Int32} {D : List ps_E} {e : ps_E} (h : ps_srt D) : ps_srt (ps_st phi D e) := by
  cases q : phi e.1 e.2 with
  | none => rw [ps_st_n q]; exact h
  | some z => rw [ps_st_s q]; exact ps_ins_srt _ _ _ h
theorem ps_st_len {phi : Int32 → Int32 → Option Int32} {D : List ps_E} {e : ps_E} : (ps_st phi D e).length ≤ D.length + 1 := by
  cases q : phi e.1 e.2 with
  | none => rw [ps_st_n q]; exact Nat.le_succ _
  | some z => rw [ps_st_s q]; exact ps_ins_len _ _ _
theorem ps_fo_srt (phi : Int32 → Int32 → Option Int32) : ∀ (L D : List ps_E), ps_srt D → ps_srt (ps_fo phi D L)
  | [], _, h => h
  | e :: t, D, h => ps_fo_srt phi t (ps_st phi D e) (ps_st_srt h)
theorem ps_fo_len (phi : Int32 → Int32 → Option Int32) : ∀ (L D : List ps_E), (ps_fo phi D L).length ≤ D.length + L.length
  | [], _ => Nat.le_refl _
  | e :: t, D => by
    have h := ps_fo_len phi t (ps_st phi D e)
    have h2 := ps_st_len (phi := phi) (D := D) (e := e)
    have h3 : ps_fo phi D (e :: t) = ps_fo phi (ps_st phi D e) t := rfl
    rw [h3, List.length_cons]
    omega
/-- what a rising list leaves of an earlier look-up -/
def ps_ov (phi : Int32 → Int32 → Option Int32) (j : Int32) (a d : Option Int32) : Option Int32 :=
  match a with
  | none => d
  | some v => match phi j v with
    | none => d
    | some z => some z
theorem ps_fo_get (phi : Int32 → Int32 → Option Int32) (j : Int32) : ∀ (L D : List ps_E), ps_srt L → ps_get j (ps_fo phi D L) = ps_ov phi j (ps_get j L) (ps_get j D)
  | [], _, _ => rfl
  | e :: t, D, h => by
    have h3 : ps_fo phi D (e :: t) = ps_fo phi (ps_st phi D e) t := rfl
    rw [h3, ps_fo_get phi j t (ps_st phi D e) h.2]
    by_cases q : e.1 = j
    · have n : ps_get j t = none := by rw [← q]; exact ps_get_tl h
      have y : ps_get j (e :: t) = some e.2 := by rw [ps_get, if_pos q]
      rw [n, y]
      unfold ps_ov
      dsimp only
      rw [← q]
      cases w : phi e.1 e.2 with
      | none => rw [ps_st_n w]
      | some z => rw [ps_st_s w, ps_ins_get, if_pos rfl]
    · have y : ps_get j (e :: t) = ps_get j t := by rw [ps_get, if_neg q]
      have d : ps_get j (ps_st phi D e) = ps_get j D := by
        cases w : phi e.1 e.2 with
        | none => rw [ps_st_n w]
        | some z => rw [ps_st_s w, ps_ins_get, if_neg (fun y => q y.symm)]
      rw [y, d]

/-- remove: the reference takes all others, one by one -/
def ps_prm (k : Int32) : Int32 → Int32 → Option Int32 := fun j v => if j = k then none else some v
theorem ps_rm_fo (k : Int32) (L : List ps_E) (h : ps_srt L) : ps_fo (ps_prm k) [] L = ps_rm k L := by
  refine ps_sext _ _ (ps_fo_srt _ _ _ True.intro) (ps_rm_srt _ _ h) (fun j => ?_)
  rw [ps_fo_get _ _ _ _ h, ps_rm_get _ _ _ h]
  unfold ps_ov ps_prm
  cases ps_get j L with
  | none =>
    by_cases q : j = k
    · rw [if_pos q]; rfl
    · rw [if_neg q]; rfl
  | some v =>
    dsimp only
    by_cases q : j = k
    · rw [if_pos q]; rfl
    · rw [if_neg q]

/-- merge: what becomes of a key by how -/
def ps_vv (how : Nat) (v w : Int32) : Int32 := if how = 1 then w else if how = 2 then v + w else v
def ps_cb (how : Nat) : Option Int32 → Option Int32 → Option Int32
  | none, none => none
  | some v, none => if how = 3 then none else some v
  | none, some w => if how = 3 ∨ how = 4 then none else some w
  | some v, some w => if how = 4 ∨ how = 5 then none else some (ps_vv how v w)
def ps_o (k : Int32) : Option Int32 → List ps_E
  | none => []
  | some z => [(k, z)]
def ps_mg (how : Nat) : Nat → List ps_E → List ps_E → List ps_E
  | 0, _, _ => []
  | _ + 1, [], [] => []
  | n + 1, e :: s, [] => ps_o e.1 (ps_cb how (some e.2) none) ++ ps_mg how n s []
  | n + 1, [], f :: t => ps_o f.1 (ps_cb how none (some f.2)) ++ ps_mg how n [] t
  | n + 1, e :: s, f :: t =>
    if e.1 < f.1 then ps_o e.1 (ps_cb how (some e.2) none) ++ ps_mg how n s (f :: t)
    else if f.1 < e.1 then ps_o f.1 (ps_cb how none (some f.2)) ++ ps_mg how n (e :: s) t
    else ps_o e.1 (ps_cb how (some e.2) (some f.2)) ++ ps_mg how n s t
def ps_lb (k : Int32) (D : List ps_E) : Prop := ∀ x, x ∈ D → k < x.1
theorem ps_lb_n {k : Int32} : ps_lb k [] := fun _ h => absurd h List.not_mem_nil
theorem ps_lb_c {k : Int32} {e : ps_E} {t : List ps_E} (h : k < e.1) (g : ps_lb k t) : ps_lb k (e :: t) := fun x hx => by
  rcases List.mem_cons.mp hx with hx | hx
  · rw [hx]; exact h
  · exact g x hx
theorem ps_lb_h {k : Int32} {e : ps_E} {t : List ps_E} (h : ps_lb k (e :: t)) : k < e.1 := h e List.mem_cons_self
theorem ps_lb_t {k : Int32} {e : ps_E} {t : List ps_E} (h : ps_lb k (e :: t)) : ps_lb k t := fun x hx => h x (List.mem_cons_of_mem _ hx)
theorem ps_lb_o {k a : Int32} {z : Option Int32} {M : List ps_E} (h : k < a) (g : ps_lb k M) : ps_lb k (ps_o a z ++ M) := by
  cases z with
  | none => exact g
  | some z => exact ps_lb_c h g
theorem ps_lb_tr {k a : Int32} {M : List ps_E} (h : k < a) (g : ps_lb a M) : ps_lb k M := fun x hx => Int32.lt_trans h (g x hx)
theorem ps_lb_get {k : Int32} {M : List ps_E} (g : ps_lb k M) : ps_get k M = none := ps_get_no _ _ (fun x hx => ps_ne' (g x hx))
theorem ps_o_srt {k : Int32} {z : Option Int32} {M : List ps_E} (h : ps_lb k M) (g : ps_srt M) : ps_srt (ps_o k z ++ M) := by
  cases z with
  | none => exact g
  | some z => exact ⟨h, g⟩
theorem ps_o_get {k j : Int32} {z : Option Int32} {M : List ps_E} (h : ps_lb k M) : ps_get j (ps_o k z ++ M) = if j = k then z else ps_get j M := by
  cases z with
  | none =>
    show ps_get j M = _
    by_cases q : j = k
    · rw [if_pos q, q]; exact ps_lb_get h
    · rw [if_neg q]
  | some z =>
    show ps_get j ((k, z) :: M) = _
    rw [ps_get]
    by_cases q : j = k
    · rw [if_pos q, if_pos q.symm]
    · rw [if_neg q, if_neg (fun y => q y.symm)]
theorem ps_mg_lb (how : Nat) (k : Int32) : ∀ (n : Nat) (A B : List ps_E), ps_lb k A → ps_lb k B → ps_lb k (ps_mg how n A B)
  | 0, _, _, _, _ => by rw [ps_mg]; exact ps_lb_n
  | _ + 1, [], [], _, _ => by rw [ps_mg]; exact ps_lb_n
  | n + 1, e :: s, [], ha, hb => by rw [ps_mg]; exact ps_lb_o (ps_lb_h ha) (ps_mg_lb how k n s [] (ps_lb_t ha) hb)
  | n + 1, [], f :: t, ha, hb => by rw [ps_mg]; exact ps_lb_o (ps_lb_h hb) (ps_mg_lb how k n [] t ha (ps_lb_t hb))
  | n + 1, e :: s, f :: t, ha, hb => by
    rw [ps_mg]
    split
    · exact ps_lb_o (ps_lb_h ha) (ps_mg_lb how k n s (f :: t) (ps_lb_t ha) hb)
    · split
      · exact ps_lb_o (ps_lb_h hb) (ps_mg_lb how k n (e :: s) t ha (ps_lb_t hb))
      · exact ps_lb_o (ps_lb_h ha) (ps_mg_lb how k n s t (ps_lb_t ha) (ps_lb_t hb))
theorem ps_get_y {e : ps_E} {t : List ps_E} {j : Int32} (h : j = e.1) : ps_get j (e :: t) = some e.2 := by rw [ps_get, if_pos h.symm]
theorem ps_get_z {e : ps_E} {t : List ps_E} {j : Int32} (h : ¬ j = e.1) : ps_get j (e :: t) = ps_get j t := by rw [ps_get, if_neg (fun y => h y.symm)]
theorem ps_mg_ok (how : Nat) : ∀ (n : Nat) (A B : List ps_E), A.length + B.length ≤ n → ps_srt A → ps_srt B →
    ps_srt (ps_mg how n A B) ∧ ∀ j, ps_get j (ps_mg how n A B) = ps_cb how (ps_get j A) (ps_get j B)
  | 0, [], [], _, _, _ => by rw [ps_mg]; exact ⟨True.intro, fun _ => rfl⟩
  | 0, _ :: _, _, h, _, _ => by simp at h
  | 0, [], _ :: _, h, _, _ => by simp at h
  | _ + 1, [], [], _, _, _ => by rw [ps_mg]; exact ⟨True.intro, fun _ => rfl⟩
  | n + 1, e :: s, [], h, ha, hb => by
    have i := ps_mg_ok how n s [] (by simp at h ⊢; omega) ha.2 hb
    have l : ps_lb e.1 (ps_mg how n s []) := ps_mg_lb how e.1 n s [] ha.1 ps_lb_n
    rw [ps_mg]
    refine ⟨ps_o_srt l i.1, fun j => ?_⟩
    rw [ps_o_get l]
    by_cases q : j = e.1
    · rw [if_pos q, ps_get_y q]; rfl
    · rw [if_neg q, ps_get_z q]; exact i.2 j
  | n + 1, [], f :: t, h, ha, hb => by
    have i := ps_mg_ok how n [] t (by simp at h ⊢; omega) ha hb.2
    have l : ps_lb f.1 (ps_mg how n [] t) := ps_mg_lb how f.1 n [] t ps_lb_n hb.1
    rw [ps_mg]
    refine ⟨ps_o_srt l i.1, fun j => ?_⟩
    rw [ps_o_get l]
    by_cases q : j = f.1
    · rw [if_pos q, ps_get_y q]; rfl
    · rw [if_neg q, ps_get_z q]; exact i.2 j
  | n + 1, e :: s, f :: t, h, ha, hb => by
    rw [ps_mg]
    by_cases c : e.1 < f.1
    · rw [if_pos c]
      have i := ps_mg_ok how n s (f :: t) (by simp at h ⊢; omega) ha.2 hb
      have lf : ps_lb e.1 (f :: t) := ps_lb_c c (ps_lb_tr c hb.1)
      have l : ps_lb e.1 (ps_mg how n s (f :: t)) := ps_mg_lb how e.1 n s (f :: t) ha.1 lf
      refine ⟨ps_o_srt l i.1, fun j => ?_⟩
      rw [ps_o_get l]
      by_cases q : j = e.1
      · rw [if_pos q, ps_get_y q, q, ps_lb_get lf]
      · rw [if_neg q, ps_get_z (e := e) q]; exact i.2 j
    · rw [if_neg c]
      by_cases d : f.1 < e.1
      · rw [if_pos d]
        have i := ps_mg_ok how n (e :: s) t (by simp at h ⊢; omega) ha hb.2
        have le : ps_lb f.1 (e :: s) := ps_lb_c d (ps_lb_tr d ha.1)
        have l : ps_lb f.1 (ps_mg how n (e :: s) t) := ps_mg_lb how f.1 n (e :: s) t le hb.1
        refine ⟨ps_o_srt l i.1, fun j => ?_⟩
        rw [ps_o_get l]
        by_cases q : j = f.1
        · rw [if_pos q, ps_get_y (e := f) q, q, ps_lb_get le]
        · rw [if_neg q, ps_get_z (e := f) q]; exact i.2 j
      · rw [if_neg d]
        have k : e.1 = f.1 := by
          by_cases z : e.1 = f.1
          · exact z
          · exact absurd (ps_gt c z) d
        have i := ps_mg_ok how n s t (by simp at h ⊢; omega) ha.2 hb.2
        have l : ps_lb e.1 (ps_mg how n s t) := ps_mg_lb how e.1 n s t ha.1 (by rw [k]; exact hb.1)
        refine ⟨ps_o_srt l i.1, fun j => ?_⟩
        rw [ps_o_get l]
        by_cases q : j = e.1
        · rw [if_pos q, ps_get_y (e := e) q, ps_get_y (e := f) (q.trans k)]
        · rw [if_neg q, ps_get_z (e := e) q, ps_get_z (e := f) (fun y => q (y.trans k.symm))]; exact i.2 j
def ps_p1 (how : Nat) (B : List ps_E) : Int32 → Int32 → Option Int32 := fun j v => ps_cb how (some v) (ps_get j B)
def ps_p2 (how : Nat) (A : List ps_E) : Int32 → Int32 → Option Int32 := fun j w => match ps_get j A with
  | none => ps_cb how none (some w)
  | some _ => none
theorem ps_mg_fo (how n : Nat) (A B : List ps_E) (h : A.length + B.length ≤ n) (ha : ps_srt A) (hb : ps_srt B) :
    ps_fo (ps_p2 how A) (ps_fo (ps_p1 how B) [] A) B = ps_mg how n A B := by
  have m := ps_mg_ok how n A B h ha hb
  refine ps_sext _ _ (ps_fo_srt _ _ _ (ps_fo_srt _ _ _ True.intro)) m.1 (fun j => ?_)
  rw [m.2 j, ps_fo_get _ _ _ _ hb, ps_fo_get _ _ _ _ ha]
  show ps_ov (ps_p2 how A) j (ps_get j B) (ps_ov (ps_p1 how B) j (ps_get j A) none) = _
  unfold ps_ov ps_p1 ps_p2
  cases ps_get j A with
  | none =>
    cases ps_get j B with
    | none => rfl
    | some w => dsimp only; cases ps_cb how none (some w) <;> rfl
  | some v =>
    cases ps_get j B with
    | none => dsimp only; cases ps_cb how (some v) none <;> rfl
    | some w => dsimp only; cases ps_cb how (some v) (some w) <;> rfl

/-- the look-up in a rising list is at the spot of the key -/
theorem ps_get_hit (k : Int32) : ∀ D : List ps_E, ps_hit k D → ps_get k D = some (ps_at D (ps_kb k D)).2
  | [], h => absurd h ps_hit_n
  | e :: t, h => by
    by_cases c : e.1 < k
    · have z : ps_kb k (e :: t) = ps_kb k t + 1 := by rw [ps_kb]; exact if_pos c
      rw [z, ps_get, if_neg (ps_ne c), ps_get_hit k t ((ps_hit_lt c).mp h)]
      rfl
    · have z : ps_kb k (e :: t) = 0 := by rw [ps_kb]; exact if_neg c
      rw [z, ps_get, if_pos ((ps_hit_z c).mp h)]
      rfl
theorem ps_get_nhit (k : Int32) : ∀ D : List ps_E, ps_srt D → ¬ ps_hit k D → ps_get k D = none
  | [], _, _ => rfl
  | e :: t, s, h => by
    by_cases c : e.1 < k
    · rw [ps_get, if_neg (ps_ne c)]
      exact ps_get_nhit k t s.2 (fun q => h ((ps_hit_lt c).mpr q))
    · have n : ¬ e.1 = k := fun q => h ((ps_hit_z c).mpr q)
      have g : k < e.1 := ps_gt c n
      exact ps_lb_get (ps_lb_c g (ps_lb_tr g s.1))

/-- convert from a list: X's map and Y's, after i elements -/
def ps_cnt (L : List ps_E) (j : Int32) : Nat → Nat
  | 0 => 0
  | i + 1 => if (ps_at L i).1 = j then ps_cnt L j i + 1 else ps_cnt L j i
def ps_tx (what : Nat) (L : List ps_E) : Nat → List ps_E
  | 0 => []
  | i + 1 => ps_ins (ps_at L i).1 (if what = 2 then (ps_get (ps_at L i).1 (ps_tx what L i)).getD 0 + 1 else nI i) (ps_tx what L i)
def ps_ty (what : Nat) (L : List ps_E) : Nat → List ps_E
  | 0 => []
  | i + 1 => ps_ins (ps_at L i).1 (if what = 2 then nI (ps_cnt L (ps_at L i).1 L.length) else nI i) (ps_ty what L i)
theorem ps_tx_srt (what : Nat) (L : List ps_E) : ∀ i, ps_srt (ps_tx what L i)
  | 0 => True.intro
  | i + 1 => ps_ins_srt _ _ _ (ps_tx_srt what L i)
theorem ps_ty_srt (what : Nat) (L : List ps_E) : ∀ i, ps_srt (ps_ty what L i)
  | 0 => True.intro
  | i + 1 => ps_ins_srt _ _ _ (ps_ty_srt what L i)
theorem ps_tx_len (what : Nat) (L : List ps_E) : ∀ i, (ps_tx what L i).length ≤ i
  | 0 => Nat.le_refl _
  | i + 1 => Nat.le_trans (ps_ins_len _ _ _) (Nat.succ_le_succ (ps_tx_len what L i))
theorem ps_ty_len (what : Nat) (L : List ps_E) : ∀ i, (ps_ty what L i).length ≤ i
  | 0 => Nat.le_refl _
  | i + 1 => Nat.le_trans (ps_ins_len _ _ _) (Nat.succ_le_succ (ps_ty_len what L i))
theorem ps_tx_get (L : List ps_E) (j : Int32) : ∀ i, ps_get j (ps_tx 2 L i) = if ps_cnt L j i = 0 then none else some (nI (ps_cnt L j i))
  | 0 => rfl
  | i + 1 => by
    rw [ps_tx, ps_ins_get, ps_cnt]
    by_cases q : (ps_at L i).1 = j
    · rw [if_pos q.symm, if_pos q, if_pos rfl, q, ps_tx_get L j i, if_neg (Nat.succ_ne_zero _)]
      by_cases z : ps_cnt L j i = 0
      · rw [if_pos z, z]; rfl
      · rw [if_neg z, ← nI_1]; rfl
    · rw [if_neg (fun y => q y.symm), if_neg q]
      exact ps_tx_get L j i
theorem ps_ty_get (L : List ps_E) (j : Int32) : ∀ i, ps_get j (ps_ty 2 L i) = if ps_cnt L j i = 0 then none else some (nI (ps_cnt L j L.length))
  | 0 => rfl
  | i + 1 => by
    rw [ps_ty, ps_ins_get, ps_cnt]
    by_cases q : (ps_at L i).1 = j
    · rw [if_pos q.symm, if_pos q, if_pos rfl, q, if_neg (Nat.succ_ne_zero _)]
    · rw [if_neg (fun y => q y.symm), if_neg q]
      exact ps_ty_get L j i
theorem ps_txy3 (what : Nat) (h : ¬ what = 2) (L : List ps_E) : ∀ i, ps_tx what L i = ps_ty what L i
  | 0 => rfl
  | i + 1 => by rw [ps_tx, ps_ty, if_neg h, if_neg h, ps_txy3 what h L i]
theorem ps_txy (what : Nat) (L : List ps_E) : ps_tx what L L.length = ps_ty what L L.length := by
  by_cases h : what = 2
  · rw [h]
    refine ps_sext _ _ (ps_tx_srt _ _ _) (ps_ty_srt _ _ _) (fun j => ?_)
    rw [ps_tx_get, ps_ty_get]
  · exact ps_txy3 what h L _
