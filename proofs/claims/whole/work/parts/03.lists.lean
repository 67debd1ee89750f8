theorem ht_allr {n : Nat} {p : Nat → Bool} (h : (List.range n).all p = true) {i : Nat} (hi : i < n) : p i = true := List.all_eq_true.mp h i (List.mem_range.mpr hi)
theorem ht_next {s c : Nat} (hs : s < 64) (hc : c < ht_N s) : (ht_nx (ht_cn s) (ht_or s c) = some (ht_or s (c + 1)) ∧ c + 1 < ht_N s) ∨ (ht_nx (ht_cn s) (ht_or s c) = none ∧ c + 1 = ht_N s) := by
  have h := ht_allr (ht_allr ht_T1 hs) hc
  unfold ht_ck at h
  cases e : ht_nx (ht_cn s) (ht_or s c) with
  | none => rw [e] at h; exact Or.inr ⟨rfl, by simpa using h⟩
  | some l =>
    rw [e] at h
    have h' : Nat.blt (c + 1) (ht_N s) = true ∧ (l == ht_or s (c + 1)) = true := by simpa using h
    refine Or.inl ⟨by rw [eq_of_beq h'.2], ?_⟩
    have := h'.1
    simpa [Nat.blt_eq] using this
theorem ht_un_len : ∀ m s c, (ht_un m s c).length = m := by
  intro m
  induction m with
  | zero => intro s c; rfl
  | succ m ih => intro s c; show (ht_un m _ _).length + 1 = m + 1; rw [ih]
theorem ht_or_len (s c : Nat) : (ht_or s c).length = ht_cn s := ht_un_len _ _ _
theorem ht_good {s c : Nat} (hs : s < 64) (hc : c < ht_N s) : (∀ j, j ∈ ht_or s c → j < 6 ∧ s.testBit j = true) ∧ ht_nd (ht_or s c) = true ∧ (∀ j, j < 6 → s.testBit j = true → j ∈ ht_or s c) := by
  have h := ht_allr (ht_allr ht_T2 hs) hc
  unfold ht_ok at h
  rw [Bool.and_eq_true, Bool.and_eq_true] at h
  obtain ⟨⟨h1, h2⟩, h3⟩ := h
  refine ⟨fun j hj => ?_, h2, fun j hj ht => ?_⟩
  · have := List.all_eq_true.mp h1 j hj
    rw [Bool.and_eq_true, Nat.blt_eq] at this
    exact this
  · have := ht_allr h3 hj
    rw [ht] at this
    simpa using this
theorem ht_nums {s : Nat} (hs : s < 64) : ht_or s 0 = ht_el s 6 ∧ 0 < ht_N s ∧ ht_N s ≤ 720 ∧ ht_cn s ≤ 6 := by
  have h := ht_allr ht_T5 hs
  simp only [Bool.and_eq_true, Nat.blt_eq, Nat.ble_eq, beq_iff_eq] at h
  exact ⟨h.1.1.1, h.1.1.2, h.1.2, h.2⟩
theorem ht_exF {s j : Nat} (hs : s < 64) (hj : j < 6) (ht : s.testBit j = true) : ∃ c, c < ht_N s ∧ ht_at (ht_or s c) 0 = j := by
  have h := ht_allr (ht_allr ht_T3 hs) hj
  rw [ht] at h
  simp only [Bool.not_true, Bool.false_or, List.any_eq_true, List.mem_range, beq_iff_eq] at h
  exact h
theorem ht_exW {s i j : Nat} (hs : s < 64) (hi : i < 6) (hj : j < 6) (hti : s.testBit i = true) (htj : s.testBit j = true) (hij : i ≠ j) : ∃ c, c < ht_N s ∧ ht_cb (ht_or s c) i j = true := by
  have h := ht_allr (ht_allr (ht_allr ht_T4 hs) hi) hj
  have hN := (ht_nums hs).2.1
  rw [hti, htj] at h
  simp only [Bool.not_true, Bool.false_or, Bool.or_eq_true, beq_iff_eq] at h
  rcases h with (h | h) | h
  · exact absurd h hij
  · exact ⟨0, hN, h⟩
  · exact ⟨_, by omega, h⟩
theorem ht_addM {s j : Nat} (hs : s < 64) (hj : j < 6) (ht : s.testBit j = false) : s + 2 ^ j < 64 ∧ ht_cn (s + 2 ^ j) = ht_cn s + 1 ∧ ∀ i, i < 6 → (s + 2 ^ j).testBit i = (i == j || s.testBit i) := by
  have h := ht_allr (ht_allr ht_T6 hs) hj
  rw [ht] at h
  simp only [Bool.false_or, Bool.and_eq_true, Nat.blt_eq, beq_iff_eq] at h
  exact ⟨h.1.1, h.1.2, fun i hi => eq_of_beq (ht_allr h.2 hi)⟩
theorem ht_remM {s j : Nat} (hs : s < 64) (hj : j < 6) (ht : s.testBit j = true) : s - 2 ^ j < 64 ∧ ht_cn (s - 2 ^ j) + 1 = ht_cn s ∧ ∀ i, i < 6 → (s - 2 ^ j).testBit i = (!(i == j) && s.testBit i) := by
  have h := ht_allr (ht_allr ht_T7 hs) hj
  rw [ht] at h
  simp only [Bool.not_true, Bool.false_or, Bool.and_eq_true, Nat.blt_eq, beq_iff_eq] at h
  exact ⟨h.1.1, h.1.2, fun i hi => eq_of_beq (ht_allr h.2 hi)⟩
theorem ht_rmI {s j : Nat} (hs : s < 64) (hj : j < 6) : nI s &&& (((1 : Int32) <<< (nI j &&& 31)) ^^^ (-1)) = nI (ht_rm s j) ∧ ht_rm s j < 64 := by
  have h := ht_allr (ht_allr ht_T8 hs) hj
  rw [Bool.and_eq_true, Nat.blt_eq, decide_eq_true_iff] at h
  exact h
theorem ht_bit {s j : Nat} (hs : s < 64) (hj : j < 6) : ((nI s >>> (nI j &&& 31)) &&& 1) = 1 ↔ s.testBit j = true := by
  have h := eq_of_beq (ht_allr (ht_allr ht_T9 hs) hj)
  rw [← h, decide_eq_true_iff]
theorem ht_orI {s j : Nat} (hs : s < 64) (hj : j < 6) (ht : s.testBit j = true) : nI (s % 2 ^ j) ||| ((1 : Int32) <<< (nI j &&& 31)) = nI (s % 2 ^ (j + 1)) := by
  have h := ht_allr (ht_allr ht_T10 hs) hj
  rw [if_pos ht, decide_eq_true_iff] at h
  exact h
theorem ht_orN {s j : Nat} (hs : s < 64) (hj : j < 6) (ht : ¬ s.testBit j = true) : s % 2 ^ j = s % 2 ^ (j + 1) := by
  have h := ht_allr (ht_allr ht_T10 hs) hj
  rw [if_neg ht] at h
  exact eq_of_beq h
theorem ht_subI {t s : Nat} (ht : t < 64) (hs : s < 64) : (nI t &&& (nI s ^^^ (-1))) = 0 ↔ t &&& s = t := by
  have h := eq_of_beq (ht_allr (ht_allr ht_T11 ht) hs)
  rw [← beq_iff_eq (a := t &&& s), ← h, decide_eq_true_iff]
theorem ht_at_mem : ∀ (l : List Nat) (i : Nat), i < l.length → ht_at l i ∈ l := by
  intro l i h
  unfold ht_at
  rw [List.getD_eq_getElem?_getD, List.getElem?_eq_getElem h]
  exact List.getElem_mem h
theorem ht_at_set (l : List Nat) (a v i : Nat) (h : i < l.length) : ht_at (l.set a v) i = if i = a then v else ht_at l i := by
  unfold ht_at
  rw [List.getD_eq_getElem?_getD, List.getD_eq_getElem?_getD, List.getElem?_set]
  by_cases e : i = a
  · subst e
    rw [if_pos rfl, if_pos rfl, if_pos h]
    rfl
  · rw [if_neg (fun z => e z.symm), if_neg e]
theorem ht_sw_len (l : List Nat) (a b : Nat) : (ht_sw l a b).length = l.length := by unfold ht_sw; rw [List.length_set, List.length_set]
theorem ht_sw_at (l : List Nat) (a b i : Nat) (h : i < l.length) : ht_at (ht_sw l a b) i = if i = b then ht_at l a else if i = a then ht_at l b else ht_at l i := by
  unfold ht_sw
  rw [ht_at_set _ _ _ _ (by rw [List.length_set]; exact h), ht_at_set _ _ _ _ h]
theorem ht_rv_len : ∀ m l a b, (ht_rv m l a b).length = l.length := by
  intro m
  induction m with
  | zero => intro l a b; rfl
  | succ m ih =>
    intro l a b
    unfold ht_rv
    by_cases h : b ≤ a
    · rw [if_pos h]
    · rw [if_neg h, ih, ht_sw_len]
def ht_OA (o : Nat → Int32) (l : List Nat) : Prop := ∀ i, i < l.length → o i = nI (ht_at l i)
def ht_B6 (l : List Nat) : Prop := ∀ i, i < l.length → ht_at l i < 6
theorem ht_OA_sw {o : Nat → Int32} {l : List Nat} {a b : Nat} (h : ht_OA o l) (ha : a < l.length) (hb : b < l.length) : ht_OA (upd (upd o a (o b)) b (o a)) (ht_sw l a b) := by
  intro i hi
  rw [ht_sw_len] at hi
  rw [ht_sw_at _ _ _ _ hi]
  by_cases e : i = b
  · subst e
    rw [pk_us, if_pos rfl, h a ha]
  · rw [pk_un e, if_neg e]
    by_cases e2 : i = a
    · subst e2
      rw [pk_us, if_pos rfl, h b hb]
    · rw [pk_un e2, if_neg e2, h i hi]
theorem ht_B6_sw {l : List Nat} {a b : Nat} (h : ht_B6 l) (ha : a < l.length) (hb : b < l.length) : ht_B6 (ht_sw l a b) := by
  intro i hi
  rw [ht_sw_len] at hi
  rw [ht_sw_at _ _ _ _ hi]
  by_cases e : i = b
  · rw [if_pos e]; exact h a ha
  · rw [if_neg e]
    by_cases e2 : i = a
    · rw [if_pos e2]; exact h b hb
    · rw [if_neg e2]; exact h i hi
