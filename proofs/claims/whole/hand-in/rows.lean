section
theorem pk_us {f : Nat → Int32} {k : Nat} {x : Int32} : upd f k x k = x := if_pos rfl
theorem pk_un {f : Nat → Int32} {k j : Nat} {x : Int32} (h : j ≠ k) : upd f k x j = f j := if_neg h
theorem pk_sub {a b : Nat} (h : b ≤ a) : nI a - nI b = nI (a - b) := by
  obtain ⟨c, rfl⟩ : ∃ c, a = c + b := ⟨a - b, by omega⟩
  rw [← nI_add, Int32.add_sub_cancel, Nat.add_sub_cancel]
theorem pk_m1 (n : Nat) : nI (n + 1) + (-1) = nI n := by
  rw [← nI_1, Int32.add_assoc, show (1 : Int32) + (-1) = 0 from rfl, Int32.add_zero]
theorem pk_mul (a b : Nat) : nI a * nI b = nI (a * b) := (Int32.ofNat_mul a b).symm
theorem pk_div {a d : Nat} (ha : a < 2 ^ 31) (h0 : 0 < d) (hd : d < 2 ^ 31) : nI a / nI d = nI (a / d) := by
  apply Int32.toInt_inj.mp
  rw [lg_idiv_nonneg (by rw [nI_toInt ha]; omega) (by rw [nI_toInt hd]; omega), nI_toInt ha, nI_toInt hd, nI_toInt (Nat.lt_of_le_of_lt (Nat.div_le_self a d) ha)]
  first | rfl | exact (Int.natCast_ediv _ _).symm
theorem pk_rem {a d : Nat} (ha : a < 2 ^ 31) (h0 : 0 < d) (hd : d < 2 ^ 31) : nI a - nI a / nI d * nI d = nI (a % d) := by
  rw [pk_div ha h0 hd, pk_mul, pk_sub (Nat.div_mul_le_self a d)]
  exact congrArg nI (by have := Nat.div_add_mod' a d; omega)
theorem pk_ix (x : Int32) {n : Nat} (hn : n < 2 ^ 31) : x < 0 ∨ nI n ≤ x ∨ ∃ j : Nat, j < n ∧ x = nI j := by
  by_cases h : x < 0
  · exact Or.inl h
  · obtain ⟨j, hj, rfl⟩ := nI_of h
    by_cases h2 : j < n
    · exact Or.inr (Or.inr ⟨j, h2, rfl⟩)
    · exact Or.inr (Or.inl (nI_le (by omega) hj))
theorem pk_le {x y : Int32} {A B : Prop} (a b : Nat) (f : a ≤ b → A) (g : b < a → B) (hx : x = nI a := by rfl) (hy : y = nI b := by rfl) (ha : a < 2 ^ 31 := by omega) (hb : b < 2 ^ 31 := by omega) : (x ≤ y → A) ∧ (¬ x ≤ y → B) := by
  subst hx hy
  rw [nI_leI ha hb]
  exact ⟨f, fun z => g (by omega)⟩
theorem pk_lt {x y : Int32} {A B : Prop} (a b : Nat) (f : a < b → A) (g : b ≤ a → B) (hx : x = nI a := by rfl) (hy : y = nI b := by rfl) (ha : a < 2 ^ 31 := by omega) (hb : b < 2 ^ 31 := by omega) : (x < y → A) ∧ (¬ x < y → B) := by
  subst hx hy
  rw [nI_ltI ha hb]
  exact ⟨f, fun z => g (by omega)⟩
theorem pk_eq {x y : Int32} {A B : Prop} (a b : Nat) (f : a = b → A) (g : a ≠ b → B) (hx : x = nI a := by rfl) (hy : y = nI b := by rfl) (ha : a < 2 ^ 31 := by omega) (hb : b < 2 ^ 31 := by omega) : (x = y → A) ∧ (¬ x = y → B) := by
  subst hx hy
  rw [nI_eq ha hb]
  exact ⟨f, g⟩
theorem pk_in {x : Int32} (n N : Nat) (h : n < N) (hx : x = nI n := by rfl) (hN : N < 2 ^ 31 := by omega) : vp_in x N := by
  subst hx
  exact vp_in_nI h hN
theorem pk_cl {x : Int32} (n : Nat) (hx : x = nI n := by rfl) (h : n < 2 ^ 31 := by omega) : x.toNatClampNeg = n := by
  subst hx
  exact nI_clamp h
end
section
/-! the pure pictures of both sides' ways through the orders, and their finite tables -/
def ht_fact : Nat → Nat
  | 0 => 1
  | n + 1 => ht_fact n * (n + 1)
def ht_at (l : List Nat) (i : Nat) : Nat := l.getD i 0
def ht_el (s j : Nat) : List Nat := (List.range j).filter (fun i => s.testBit i)
def ht_cn (s : Nat) : Nat := (ht_el s 6).length
def ht_N (s : Nat) : Nat := ht_fact (ht_cn s)
def ht_rm (s j : Nat) : Nat := if s.testBit j then s - 2 ^ j else s
def ht_nt : Nat → Nat → Nat → Nat → Nat
  | 0, _, _, _ => 0
  | m + 1, s, k, j => if s.testBit j then (if k = 0 then j else ht_nt m s (k - 1) (j + 1)) else ht_nt m s k (j + 1)
def ht_un : Nat → Nat → Nat → List Nat
  | 0, _, _ => []
  | m + 1, s, c => ht_nt 6 s (c / ht_fact m) 0 :: ht_un m (ht_rm s (ht_nt 6 s (c / ht_fact m) 0)) (c % ht_fact m)
def ht_or (s c : Nat) : List Nat := ht_un (ht_cn s) s c
def ht_sw (l : List Nat) (a b : Nat) : List Nat := (l.set a (ht_at l b)).set b (ht_at l a)
def ht_lr (l : List Nat) : Nat → Option Nat
  | 0 => none
  | k + 1 => if ht_at l k < ht_at l (k + 1) then some k else ht_lr l k
def ht_la (l : List Nat) (t : Nat) : Nat → Nat
  | 0 => t
  | k + 1 => if k + 1 ≤ t then t else if ht_at l t < ht_at l (k + 1) then k + 1 else ht_la l t k
def ht_rv : Nat → List Nat → Nat → Nat → List Nat
  | 0, l, _, _ => l
  | m + 1, l, a, b => if b ≤ a then l else ht_rv m (ht_sw l a b) (a + 1) (b - 1)
def ht_nx (n : Nat) (l : List Nat) : Option (List Nat) := match ht_lr l (n - 1) with
  | none => none
  | some t => some (ht_rv 6 (ht_sw l t (ht_la l t (n - 1))) (t + 1) (n - 1))
def ht_ck (s c : Nat) : Bool := match ht_nx (ht_cn s) (ht_or s c) with
  | none => c + 1 == ht_N s
  | some l => Nat.blt (c + 1) (ht_N s) && l == ht_or s (c + 1)
def ht_nd : List Nat → Bool
  | [] => true
  | a :: l => !(l.contains a) && ht_nd l
def ht_ok (s c : Nat) : Bool := (ht_or s c).all (fun j => Nat.blt j 6 && s.testBit j) && ht_nd (ht_or s c) && (List.range 6).all (fun j => !s.testBit j || (ht_or s c).contains j)
def ht_cb : List Nat → Nat → Nat → Bool
  | [], _, _ => false
  | x :: l, i, j => if x = i then true else if x = j then false else ht_cb l i j
theorem ht_T1 : (List.range 64).all (fun s => (List.range (ht_N s)).all (fun c => ht_ck s c)) = true := by decide +kernel
theorem ht_T2 : (List.range 64).all (fun s => (List.range (ht_N s)).all (fun c => ht_ok s c)) = true := by decide +kernel
theorem ht_T3 : (List.range 64).all (fun s => (List.range 6).all (fun j => !s.testBit j || (List.range (ht_N s)).any (fun c => ht_at (ht_or s c) 0 == j))) = true := by decide +kernel
theorem ht_T4 : (List.range 64).all (fun s => (List.range 6).all (fun i => (List.range 6).all (fun j => !s.testBit i || !s.testBit j || i == j || ht_cb (ht_or s 0) i j || ht_cb (ht_or s (ht_N s - 1)) i j))) = true := by decide +kernel
theorem ht_T5 : (List.range 64).all (fun s => ht_or s 0 == ht_el s 6 && Nat.blt 0 (ht_N s) && Nat.ble (ht_N s) 720 && Nat.ble (ht_cn s) 6) = true := by decide +kernel
theorem ht_T6 : (List.range 64).all (fun s => (List.range 6).all (fun j => s.testBit j || (Nat.blt (s + 2 ^ j) 64 && (ht_cn (s + 2 ^ j) == ht_cn s + 1) && (List.range 6).all (fun i => (s + 2 ^ j).testBit i == (i == j || s.testBit i))))) = true := by decide +kernel
theorem ht_T7 : (List.range 64).all (fun s => (List.range 6).all (fun j => !s.testBit j || (Nat.blt (s - 2 ^ j) 64 && (ht_cn (s - 2 ^ j) + 1 == ht_cn s) && (List.range 6).all (fun i => (s - 2 ^ j).testBit i == (!(i == j) && s.testBit i))))) = true := by decide +kernel
theorem ht_T8 : (List.range 64).all (fun s => (List.range 6).all (fun j => decide (nI s &&& (((1 : Int32) <<< (nI j &&& 31)) ^^^ (-1)) = nI (ht_rm s j)) && Nat.blt (ht_rm s j) 64)) = true := by decide +kernel
theorem ht_T9 : (List.range 64).all (fun s => (List.range 6).all (fun j => decide (((nI s >>> (nI j &&& 31)) &&& 1) = 1) == s.testBit j)) = true := by decide +kernel
theorem ht_T10 : (List.range 64).all (fun s => (List.range 6).all (fun j => if s.testBit j then decide (nI (s % 2 ^ j) ||| ((1 : Int32) <<< (nI j &&& 31)) = nI (s % 2 ^ (j + 1))) else s % 2 ^ j == s % 2 ^ (j + 1))) = true := by decide +kernel
theorem ht_T11 : (List.range 64).all (fun t => (List.range 64).all (fun s => decide ((nI t &&& (nI s ^^^ (-1))) = 0) == (t &&& s == t))) = true := by decide +kernel
end
section
theorem ht_allr {n : Nat} {p : Nat → Bool} (h : (List.range n).all p = true) {i : Nat} (hi : i < n) : p i = true := List.all_eq_true.mp h i (List.mem_range.mpr hi)
theorem ht_next {s c : Nat} (hs : s < 64) (hc : c < ht_N s) : (ht_nx (ht_cn s) (ht_or s c) = some (ht_or s (c + 1)) ∧ c + 1 < ht_N s) ∨ (ht_nx (ht_cn s) (ht_or s c) = none ∧ c + 1 = ht_N s) := by
  have h := ht_allr (ht_allr ht_T1 hs) hc
  unfold ht_ck at h
  cases e : ht_nx (ht_cn s) (ht_or s c) with
  | none => rw [e] at h; exact Or.inr ⟨rfl, by simpa using h⟩
  | some l =>
    rw [e] at h
    have h' : Nat.blt (c + 1) (ht_N s) = true ∧ (l == ht_or s (c + 1)) = true := by simpa using h
    refine Or.inl ⟨by rw [eq_of_beq h'.2], ?_⟩
    have := h'.1
    simpa [Nat.blt_eq] using this
theorem ht_un_len : ∀ m s c, (ht_un m s c).length = m := by
  intro m
  induction m with
  | zero => intro s c; rfl
  | succ m ih => intro s c; show (ht_un m _ _).length + 1 = m + 1; rw [ih]
theorem ht_or_len (s c : Nat) : (ht_or s c).length = ht_cn s := ht_un_len _ _ _
theorem ht_good {s c : Nat} (hs : s < 64) (hc : c < ht_N s) : (∀ j, j ∈ ht_or s c → j < 6 ∧ s.testBit j = true) ∧ ht_nd (ht_or s c) = true ∧ (∀ j, j < 6 → s.testBit j = true → j ∈ ht_or s c) := by
  have h := ht_allr (ht_allr ht_T2 hs) hc
  unfold ht_ok at h
  rw [Bool.and_eq_true, Bool.and_eq_true] at h
  obtain ⟨⟨h1, h2⟩, h3⟩ := h
  refine ⟨fun j hj => ?_, h2, fun j hj ht => ?_⟩
  · have := List.all_eq_true.mp h1 j hj
    rw [Bool.and_eq_true, Nat.blt_eq] at this
    exact this
  · have := ht_allr h3 hj
    rw [ht] at this
    simpa using this
theorem ht_nums {s : Nat} (hs : s < 64) : ht_or s 0 = ht_el s 6 ∧ 0 < ht_N s ∧ ht_N s ≤ 720 ∧ ht_cn s ≤ 6 := by
  have h := ht_allr ht_T5 hs
  simp only [Bool.and_eq_true, Nat.blt_eq, Nat.ble_eq, beq_iff_eq] at h
  exact ⟨h.1.1.1, h.1.1.2, h.1.2, h.2⟩
theorem ht_exF {s j : Nat} (hs : s < 64) (hj : j < 6) (ht : s.testBit j = true) : ∃ c, c < ht_N s ∧ ht_at (ht_or s c) 0 = j := by
  have h := ht_allr (ht_allr ht_T3 hs) hj
  rw [ht] at h
  simp only [Bool.not_true, Bool.false_or, List.any_eq_true, List.mem_range, beq_iff_eq] at h
  exact h
theorem ht_exW {s i j : Nat} (hs : s < 64) (hi : i < 6) (hj : j < 6) (hti : s.testBit i = true) (htj : s.testBit j = true) (hij : i ≠ j) : ∃ c, c < ht_N s ∧ ht_cb (ht_or s c) i j = true := by
  have h := ht_allr (ht_allr (ht_allr ht_T4 hs) hi) hj
  have hN := (ht_nums hs).2.1
  rw [hti, htj] at h
  simp only [Bool.not_true, Bool.false_or, Bool.or_eq_true, beq_iff_eq] at h
  rcases h with (h | h) | h
  · exact absurd h hij
  · exact ⟨0, hN, h⟩
  · exact ⟨_, by omega, h⟩
theorem ht_addM {s j : Nat} (hs : s < 64) (hj : j < 6) (ht : s.testBit j = false) : s + 2 ^ j < 64 ∧ ht_cn (s + 2 ^ j) = ht_cn s + 1 ∧ ∀ i, i < 6 → (s + 2 ^ j).testBit i = (i == j || s.testBit i) := by
  have h := ht_allr (ht_allr ht_T6 hs) hj
  rw [ht] at h
  simp only [Bool.false_or, Bool.and_eq_true, Nat.blt_eq, beq_iff_eq] at h
  exact ⟨h.1.1, h.1.2, fun i hi => eq_of_beq (ht_allr h.2 hi)⟩
theorem ht_remM {s j : Nat} (hs : s < 64) (hj : j < 6) (ht : s.testBit j = true) : s - 2 ^ j < 64 ∧ ht_cn (s - 2 ^ j) + 1 = ht_cn s ∧ ∀ i, i < 6 → (s - 2 ^ j).testBit i = (!(i == j) && s.testBit i) := by
  have h := ht_allr (ht_allr ht_T7 hs) hj
  rw [ht] at h
  simp only [Bool.not_true, Bool.false_or, Bool.and_eq_true, Nat.blt_eq, beq_iff_eq] at h
  exact ⟨h.1.1, h.1.2, fun i hi => eq_of_beq (ht_allr h.2 hi)⟩
theorem ht_rmI {s j : Nat} (hs : s < 64) (hj : j < 6) : nI s &&& (((1 : Int32) <<< (nI j &&& 31)) ^^^ (-1)) = nI (ht_rm s j) ∧ ht_rm s j < 64 := by
  have h := ht_allr (ht_allr ht_T8 hs) hj
  rw [Bool.and_eq_true, Nat.blt_eq, decide_eq_true_iff] at h
  exact h
theorem ht_bit {s j : Nat} (hs : s < 64) (hj : j < 6) : ((nI s >>> (nI j &&& 31)) &&& 1) = 1 ↔ s.testBit j = true := by
  have h := eq_of_beq (ht_allr (ht_allr ht_T9 hs) hj)
  rw [← h, decide_eq_true_iff]
theorem ht_orI {s j : Nat} (hs : s < 64) (hj : j < 6) (ht : s.testBit j = true) : nI (s % 2 ^ j) ||| ((1 : Int32) <<< (nI j &&& 31)) = nI (s % 2 ^ (j + 1)) := by
  have h := ht_allr (ht_allr ht_T10 hs) hj
  rw [if_pos ht, decide_eq_true_iff] at h
  exact h
theorem ht_orN {s j : Nat} (hs : s < 64) (hj : j < 6) (ht : ¬ s.testBit j = true) : s % 2 ^ j = s % 2 ^ (j + 1) := by
  have h := ht_allr (ht_allr ht_T10 hs) hj
  rw [if_neg ht] at h
  exact eq_of_beq h
theorem ht_subI {t s : Nat} (ht : t < 64) (hs : s < 64) : (nI t &&& (nI s ^^^ (-1))) = 0 ↔ t &&& s = t := by
  have h := eq_of_beq (ht_allr (ht_allr ht_T11 ht) hs)
  rw [← beq_iff_eq (a := t &&& s), ← h, decide_eq_true_iff]
theorem ht_at_mem : ∀ (l : List Nat) (i : Nat), i < l.length → ht_at l i ∈ l := by
  intro l i h
  unfold ht_at
  rw [List.getD_eq_getElem?_getD, List.getElem?_eq_getElem h]
  exact List.getElem_mem h
theorem ht_at_set (l : List Nat) (a v i : Nat) (h : i < l.length) : ht_at (l.set a v) i = if i = a then v else ht_at l i := by
  unfold ht_at
  rw [List.getD_eq_getElem?_getD, List.getD_eq_getElem?_getD, List.getElem?_set]
  by_cases e : i = a
  · subst e
    rw [if_pos rfl, if_pos rfl, if_pos h]
    rfl
  · rw [if_neg (fun z => e z.symm), if_neg e]
theorem ht_sw_len (l : List Nat) (a b : Nat) : (ht_sw l a b).length = l.length := by unfold ht_sw; rw [List.length_set, List.length_set]
theorem ht_sw_at (l : List Nat) (a b i : Nat) (h : i < l.length) : ht_at (ht_sw l a b) i = if i = b then ht_at l a else if i = a then ht_at l b else ht_at l i := by
  unfold ht_sw
  rw [ht_at_set _ _ _ _ (by rw [List.length_set]; exact h), ht_at_set _ _ _ _ h]
theorem ht_rv_len : ∀ m l a b, (ht_rv m l a b).length = l.length := by
  intro m
  induction m with
  | zero => intro l a b; rfl
  | succ m ih =>
    intro l a b
    unfold ht_rv
    by_cases h : b ≤ a
    · rw [if_pos h]
    · rw [if_neg h, ih, ht_sw_len]
def ht_OA (o : Nat → Int32) (l : List Nat) : Prop := ∀ i, i < l.length → o i = nI (ht_at l i)
def ht_B6 (l : List Nat) : Prop := ∀ i, i < l.length → ht_at l i < 6
theorem ht_OA_sw {o : Nat → Int32} {l : List Nat} {a b : Nat} (h : ht_OA o l) (ha : a < l.length) (hb : b < l.length) : ht_OA (upd (upd o a (o b)) b (o a)) (ht_sw l a b) := by
  intro i hi
  rw [ht_sw_len] at hi
  rw [ht_sw_at _ _ _ _ hi]
  by_cases e : i = b
  · subst e
    rw [pk_us, if_pos rfl, h a ha]
  · rw [pk_un e, if_neg e]
    by_cases e2 : i = a
    · subst e2
      rw [pk_us, if_pos rfl, h b hb]
    · rw [pk_un e2, if_neg e2, h i hi]
theorem ht_B6_sw {l : List Nat} {a b : Nat} (h : ht_B6 l) (ha : a < l.length) (hb : b < l.length) : ht_B6 (ht_sw l a b) := by
  intro i hi
  rw [ht_sw_len] at hi
  rw [ht_sw_at _ _ _ _ hi]
  by_cases e : i = b
  · rw [if_pos e]; exact h a ha
  · rw [if_neg e]
    by_cases e2 : i = a
    · rw [if_pos e2]; exact h b hb
    · rw [if_neg e2]; exact h i hi
end
section
/-! X: the walks of the small methods over orders -/
def ht_D (r p q : Nat → Int32) (R P Q : Nat → Nat) : Prop := ∀ j, j < 6 → r j = nI (R j) ∧ p j = nI (P j) ∧ q j = nI (Q j)
def ht_bd (R P Q : Nat → Nat) : Prop := ∀ j, j < 6 → R j ≤ 200 ∧ P j ≤ 12 ∧ Q j ≤ 200
def ht_ln (R P Q : Nat → Nat) : List Nat → Nat → Nat → Nat
  | [], _, g => g
  | j :: l, t, g => ht_ln R P Q l (max t (R j) + P j) (max g (max t (R j) + P j + Q j))
theorem ht_xlater {post : Int32 → Prop} {u : SX} {x y : Nat} (hx : x < 2 ^ 31) (hy : y < 2 ^ 31) (h : post (nI (max x y))) : wpX_later post u (nI x) (nI y) := by
  obtain ⟨f, a, r, p, q, o, b, w⟩ := u
  exact pk_le x y (fun z => by rw [Nat.max_eq_right z] at h; exact h) (fun z => by rw [Nat.max_eq_left (by omega)] at h; exact h)
theorem ht_xlen {post : Int32 → Prop} {n : Nat} {a r p q o b w : Nat → Int32} {R P Q : Nat → Nat} (hD : ht_D r p q R P Q) (hB : ht_bd R P Q) (hn : n ≤ 6) : ∀ (l : List Nat) (m k t g : Nat), l.length < m → (∀ i, i < l.length → o (k + i) = nI (ht_at l i)) → (∀ i, i < l.length → ht_at l i < 6) → k + l.length = n → t ≤ 400 * k → g ≤ 400 * k + 200 → post (nI (ht_ln R P Q l t g)) → wX_orderLength_6 post (nI n) a r p q o b w m (nI t) (nI g) (nI k) := by
  intro l
  induction l with
  | nil =>
    intro m k t g hm ho h6 hk ht hg h
    obtain ⟨m, rfl⟩ : ∃ m', m = m' + 1 := ⟨m - 1, by omega⟩
    have hk' : k = n := hk
    exact br_t (nI_le (by omega) (by omega)) h
  | cons x l ih =>
    intro m k t g hm ho h6 hk ht hg h
    obtain ⟨m, rfl⟩ : ∃ m', m = m' + 1 := ⟨m - 1, by omega⟩
    have hk' : k + (l.length + 1) = n := hk
    have hm' : l.length + 1 < m + 1 := hm
    have hx6 : x < 6 := h6 0 (Nat.succ_pos _)
    obtain ⟨eR, eP, eQ⟩ := hD x hx6
    obtain ⟨bR, bP, bQ⟩ := hB x hx6
    have e0 : o (nI k).toNatClampNeg = nI x := by rw [nI_clamp (by omega)]; exact ho 0 (Nat.succ_pos _)
    have cx : (nI x).toNatClampNeg = x := nI_clamp (by omega)
    have vx : vp_in (nI x) 6 := vp_in_nI hx6 (by omega)
    have hT : max t (R x) + P x ≤ 400 * (k + 1) := by omega
    refine br_f (nI_ge (by omega) (by omega)) ⟨vp_in_nI (by omega) (by omega), nm_r e0 ⟨vx, ?_⟩⟩
    rw [cx, eR, eP, eQ]
    refine ht_xlater (by omega) (by omega) ⟨vx, nm_r (nI_add _ _) ⟨vx, ?_⟩⟩
    rw [nI_add]
    refine ht_xlater (by omega) (by omega) (nm_r (nI_1 _) ?_)
    refine ih m (k + 1) _ _ (by omega) (fun i hi => ?_) (fun i hi => h6 (i + 1) (Nat.succ_lt_succ hi)) (by omega) hT (by omega) h
    have := ho (i + 1) (Nat.succ_lt_succ hi)
    rw [show k + 1 + i = k + (i + 1) by omega]
    exact this
theorem ht_xorderLength {post : Int32 → Prop} {n : Nat} {a r p q o b w : Nat → Int32} {R P Q : Nat → Nat} (hD : ht_D r p q R P Q) (hB : ht_bd R P Q) (hn : n ≤ 6) {l : List Nat} (hl : l.length = n) (ho : ht_OA o l) (h6 : ht_B6 l) (h : post (nI (ht_ln R P Q l 0 0))) : wpX_orderLength post (nI n, a, r, p, q, o, b, w) :=
  ⟨l.length + 1, ht_xlen hD hB hn l (l.length + 1) 0 0 0 (by omega) (fun i hi => by rw [Nat.zero_add]; exact ho i hi) h6 (by omega) (by omega) (by omega) h⟩
theorem ht_xkeep {post : SX → Prop} {n : Nat} {a r p q o w : Nat → Int32} (hn : n ≤ 6) : ∀ (d k : Nat) (b : Nat → Int32), k + d = n → (∀ i, i < k → b i = o i) → (∀ b' : Nat → Int32, (∀ i, i < n → b' i = o i) → post (nI n, a, r, p, q, o, b', w)) → wX_keepOrder_2 post (nI n) (d + 1) (nI k) a r p q o b w := by
  intro d
  induction d with
  | zero =>
    intro k b hk hb h
    exact br_t (nI_le (by omega) (by omega)) (h b (fun i hi => hb i (by omega)))
  | succ d ih =>
    intro k b hk hb h
    have vk : vp_in (nI k) 6 := vp_in_nI (by omega) (by omega)
    refine br_f (nI_ge (by omega) (by omega)) ⟨vk, vk, nm_e (nm_r (nI_1 _) ?_)⟩
    refine ih (k + 1) _ (by omega) (fun i hi => ?_) h
    rw [nI_clamp (by omega)]
    by_cases e : i = k
    · subst e; rw [pk_us]
    · rw [pk_un e]; exact hb i (by omega)
theorem ht_xkeepOrder {post : SX → Prop} {n : Nat} {a r p q o b w : Nat → Int32} (hn : n ≤ 6) (h : ∀ b' : Nat → Int32, (∀ i, i < n → b' i = o i) → post (nI n, a, r, p, q, o, b', w)) : wpX_keepOrder post (nI n, a, r, p, q, o, b, w) :=
  ⟨n + 1, ht_xkeep hn n 0 b (by omega) (fun i hi => absurd hi (by omega)) h⟩
theorem ht_xcb {post : Int32 → Prop} {n : Nat} {a r p q o b w : Nat → Int32} {x y : Nat} (hx : x < 6) (hy : y < 6) (hn : n ≤ 6) : ∀ (l : List Nat) (m k : Nat), l.length < m → (∀ i, i < l.length → o (k + i) = nI (ht_at l i)) → (∀ i, i < l.length → ht_at l i < 6) → k + l.length = n → post (if ht_cb l x y = true then 1 else 0) → wX_comesBefore_2 post (nI x) (nI y) (nI n) a r p q o b w m (nI k) := by
  intro l
  induction l with
  | nil =>
    intro m k hm ho h6 hk h
    obtain ⟨m, rfl⟩ : ∃ m', m = m' + 1 := ⟨m - 1, by omega⟩
    have hk' : k = n := hk
    exact br_t (nI_le (by omega) (by omega)) h
  | cons z l ih =>
    intro m k hm ho h6 hk h
    obtain ⟨m, rfl⟩ : ∃ m', m = m' + 1 := ⟨m - 1, by omega⟩
    have hk' : k + (l.length + 1) = n := hk
    have hm' : l.length + 1 < m + 1 := hm
    have hz6 : z < 6 := h6 0 (Nat.succ_pos _)
    have e0 : o (nI k).toNatClampNeg = nI z := by rw [nI_clamp (by omega)]; exact ho 0 (Nat.succ_pos _)
    have vk : vp_in (nI k) 6 := vp_in_nI (by omega) (by omega)
    refine br_f (nI_ge (by omega) (by omega)) ⟨vk, pk_eq z x (fun e => ?_) (fun e => ⟨vk, pk_eq z y (fun e2 => ?_) (fun e2 => nm_r (nI_1 _) ?_) e0⟩) e0⟩
    · unfold ht_cb at h; rw [if_pos e] at h; exact h
    · unfold ht_cb at h; rw [if_neg e, if_pos e2] at h; exact h
    · unfold ht_cb at h; rw [if_neg e, if_neg e2] at h
      refine ih m (k + 1) (by omega) (fun i hi => ?_) (fun i hi => h6 (i + 1) (Nat.succ_lt_succ hi)) (by omega) h
      have := ho (i + 1) (Nat.succ_lt_succ hi)
      rw [show k + 1 + i = k + (i + 1) by omega]
      exact this
theorem ht_xw0 {post : Int32 → Prop} {u : SX} (h : post 1) : wpX_isWanted post u (-1) (-1) (-1) := by
  obtain ⟨f, a, r, p, q, o, b, w⟩ := u
  exact br_t rfl (br_t rfl h)
theorem ht_nm1 {x : Nat} (hx : x < 2 ^ 31) : ¬ nI x = -1 := by
  intro e
  have h := nI_toInt hx
  rw [e] at h
  have : (-1 : Int32).toInt = -1 := by decide
  omega
theorem ht_xwF {post : Int32 → Prop} {n x : Nat} {a r p q o b w : Nat → Int32} (hx : x < 6) {l : List Nat} (hl : 0 < l.length) (ho : ht_OA o l) (h6 : ht_B6 l) (h : post (if ht_at l 0 = x then 1 else 0)) : wpX_isWanted post (nI n, a, r, p, q, o, b, w) (nI x) (-1) (-1) :=
  br_f (ht_nm1 (by omega)) (pk_eq (ht_at l 0) x (fun e => by rw [if_pos e] at h; exact br_t rfl h) (fun e => by rw [if_neg e] at h; exact h) (ho 0 hl) rfl (by have := h6 0 hl; omega))
theorem ht_xwW {post : Int32 → Prop} {n x y : Nat} {a r p q o b w : Nat → Int32} (hx : x < 6) (hy : y < 6) (hn : n ≤ 6) {l : List Nat} (hl : l.length = n) (ho : ht_OA o l) (h6 : ht_B6 l) (h : post (if ht_cb l x y = true then 1 else 0)) : wpX_isWanted post (nI n, a, r, p, q, o, b, w) (-1) (nI x) (nI y) := by
  refine br_t rfl (br_f (ht_nm1 (by omega)) ⟨l.length + 1, ht_xcb hx hy hn l (l.length + 1) 0 (by omega) (fun i hi => by rw [Nat.zero_add]; exact ho i hi) h6 (by omega) ?_⟩)
  by_cases e : ht_cb l x y = true
  · rw [if_pos e] at h ⊢; exact br_f (by decide) h
  · rw [if_neg e] at h ⊢; exact br_t rfl h
theorem ht_xlr {post : Int32 → Prop} {n : Nat} {a r p q o b w : Nat → Int32} {l : List Nat} (ho : ht_OA o l) (h6 : ht_B6 l) (hl : l.length = n) (hn : n ≤ 6) (hN : ht_lr l (n - 1) = none → post (-1)) (hS : ∀ t, ht_lr l (n - 1) = some t → post (nI t)) : wpX_lastRise post (nI n, a, r, p, q, o, b, w) := by
  have key : ∀ k, k + 1 < n → (ht_lr l (k + 1) = none → post (-1)) → (∀ t, ht_lr l (k + 1) = some t → post (nI t)) → wX_lastRise_7 post (nI n) a r p q o b w (k + 2) (nI k) := by
    intro k
    induction k with
    | zero =>
      intro hk h1 h2
      have v0 : vp_in (nI 0) 6 := vp_in_nI (by omega) (by omega)
      have v1 : vp_in (nI 0 + 1) 6 := vp_in_nI (n := 1) (by omega) (by omega)
      refine br_f (nI_pos (by omega)) ⟨v0, v1, pk_le (ht_at l 1) (ht_at l 0) (fun z => nm_e ?_) (fun z => ?_) (ho 1 (by omega)) (ho 0 (by omega)) (by have := h6 1 (by omega); omega) (by have := h6 0 (by omega); omega)⟩
      · refine br_t (by decide) (h1 ?_)
        unfold ht_lr; rw [if_neg (Nat.not_lt.mpr z)]; rfl
      · refine h2 0 ?_
        unfold ht_lr; rw [if_pos z]
    | succ k ih =>
      intro hk h1 h2
      have v0 : vp_in (nI (k + 1)) 6 := vp_in_nI (by omega) (by omega)
      have v1 : vp_in (nI (k + 1) + 1) 6 := by rw [nI_1]; exact vp_in_nI (by omega) (by omega)
      have e1 : o (nI (k + 1) + 1).toNatClampNeg = nI (ht_at l (k + 2)) := by rw [nI_1, nI_clamp (by omega)]; exact ho _ (by omega)
      have e0 : o (nI (k + 1)).toNatClampNeg = nI (ht_at l (k + 1)) := by rw [nI_clamp (by omega)]; exact ho _ (by omega)
      refine br_f (nI_pos (by omega)) ⟨v0, v1, pk_le (ht_at l (k + 2)) (ht_at l (k + 1)) (fun z => nm_r (pk_m1 _) ?_) (fun z => ?_) e1 e0 (by have := h6 (k + 2) (by omega); omega) (by have := h6 (k + 1) (by omega); omega)⟩
      · have e : ht_lr l (k + 1 + 1) = ht_lr l (k + 1) := by
          conv => lhs; unfold ht_lr
          rw [if_neg (Nat.not_lt.mpr z)]
        rw [e] at h1
        exact ih (by omega) h1 (fun t ht => h2 t (e.trans ht))
      · refine h2 (k + 1) ?_
        unfold ht_lr; rw [if_pos z]
  by_cases h2 : 2 ≤ n
  · have e : nI n - 2 = nI (n - 2) := pk_sub (b := 2) h2
    refine nm_r e ⟨n, ?_⟩
    have := key (n - 2) (by omega)
    rw [show n - 2 + 1 = n - 1 by omega, show n - 2 + 2 = n by omega] at this
    exact this hN hS
  · have hn' : n - 1 = 0 := by omega
    rw [hn'] at hN
    refine nm_e ⟨1, br_t ?_ (hN rfl)⟩
    rcases (show n = 0 ∨ n = 1 by omega) with rfl | rfl <;> decide
theorem ht_xla {post : Int32 → Prop} {n t : Nat} {a r p q o b w : Nat → Int32} {l : List Nat} (ho : ht_OA o l) (h6 : ht_B6 l) (hl : l.length = n) (hn : n ≤ 6) (ht : t < n) : ∀ k, k < n → post (nI (ht_la l t k)) → wX_lastAbove_7 post (nI t) (nI n) a r p q o b w (k + 1) (nI k) := by
  intro k
  induction k with
  | zero =>
    intro hk h
    exact br_t (nI_le (by omega) (by omega)) h
  | succ k ih =>
    intro hk h
    unfold ht_la at h
    by_cases e : k + 1 ≤ t
    · rw [if_pos e] at h
      exact br_t (nI_le e (by omega)) h
    · rw [if_neg e] at h
      have e1 : o (nI (k + 1)).toNatClampNeg = nI (ht_at l (k + 1)) := by rw [nI_clamp (by omega)]; exact ho _ (by omega)
      have e0 : o (nI t).toNatClampNeg = nI (ht_at l t) := by rw [nI_clamp (by omega)]; exact ho _ (by omega)
      refine br_f (nI_ge (by omega) (by omega)) ⟨vp_in_nI (by omega) (by omega), vp_in_nI (by omega) (by omega), pk_le (ht_at l (k + 1)) (ht_at l t) (fun z => nm_r (pk_m1 _) ?_) (fun z => ?_) e1 e0 (by have := h6 (k + 1) (by omega); omega) (by have := h6 t (by omega); omega)⟩
      · rw [if_neg (by omega)] at h; exact ih (by omega) h
      · rw [if_pos z] at h; exact h
theorem ht_la_lt {l : List Nat} {t n : Nat} (ht : t < n) : ∀ k, k < n → ht_la l t k < n := by
  intro k
  induction k with
  | zero => intro _; exact ht
  | succ k ih =>
    intro hk
    unfold ht_la
    split
    · exact ht
    · split
      · exact hk
      · exact ih (by omega)
theorem ht_lr_lt {l : List Nat} : ∀ k t, ht_lr l k = some t → t < k := by
  intro k
  induction k with
  | zero => intro t h; exact nomatch h
  | succ k ih =>
    intro t h
    unfold ht_lr at h
    split at h
    · cases h; omega
    · have := ih t h; omega
theorem ht_xsw {post : SX → Prop} {n x y : Nat} {a r p q o b w : Nat → Int32} (hx : x < 6) (hy : y < 6) (h : post (nI n, a, r, p, q, upd (upd o x (o y)) y (o x), b, w)) : wpX_swap post (nI n, a, r, p, q, o, b, w) (nI x) (nI y) := by
  have cx : (nI x).toNatClampNeg = x := nI_clamp (by omega)
  have cy : (nI y).toNatClampNeg = y := nI_clamp (by omega)
  have vx : vp_in (nI x) 6 := vp_in_nI hx (by omega)
  have vy : vp_in (nI y) 6 := vp_in_nI hy (by omega)
  unfold wpX_swap
  dsimp only
  rw [cx, cy]
  exact ⟨vx, nm_e ⟨vy, vx, nm_e ⟨vy, nm_e h⟩⟩⟩
theorem ht_xrv {post : SX → Prop} {n : Nat} {a r p q b w : Nat → Int32} (hn : n ≤ 6) : ∀ (m : Nat) (l : List Nat) (o : Nat → Int32) (x y : Nat), ht_OA o l → ht_B6 l → l.length = n → x ≤ n → y < n → y ≤ x + m → (∀ o', ht_OA o' (ht_rv m l x y) → post (nI n, a, r, p, q, o', b, w)) → wX_reverseAfter_11 post (m + 1) (nI y) (nI x) (nI n) a r p q o b w := by
  intro m
  induction m with
  | zero =>
    intro l o x y ho h6 hl hx hy hm h
    exact br_t (nI_le (by omega) (by omega)) (h o ho)
  | succ m ih =>
    intro l o x y ho h6 hl hx hy hm h
    unfold ht_rv at h
    by_cases e : y ≤ x
    · rw [if_pos e] at h
      exact br_t (nI_le e (by omega)) (h o ho)
    · rw [if_neg e] at h
      obtain ⟨y, rfl⟩ : ∃ y', y = y' + 1 := ⟨y - 1, by omega⟩
      refine br_f (nI_ge (by omega) (by omega)) (ht_xsw (by omega) (by omega) (nm_r (pk_m1 _) (nm_r (nI_1 _) ?_)))
      exact ih (ht_sw l x (y + 1)) _ (x + 1) y (ht_OA_sw ho (by omega) (by omega)) (ht_B6_sw h6 (by omega) (by omega)) (by rw [ht_sw_len]; exact hl) (by omega) (by omega) (by omega) h
theorem ht_xnext {post : Int32 → SX → Prop} {n : Nat} {a r p q o b w : Nat → Int32} {l : List Nat} (ho : ht_OA o l) (h6 : ht_B6 l) (hl : l.length = n) (hn : n ≤ 6) (hN : ht_nx n l = none → post 0 (nI n, a, r, p, q, o, b, w)) (hS : ∀ l' o', ht_nx n l = some l' → ht_OA o' l' → post 1 (nI n, a, r, p, q, o', b, w)) : wpX_nextOrder post (nI n, a, r, p, q, o, b, w) := by
  refine ht_xlr ho h6 hl hn (fun e => ?_) (fun t e => ?_)
  · refine br_f (by decide) (hN ?_)
    unfold ht_nx; rw [e]
  · have htn := ht_lr_lt _ _ e
    have hv := ht_la_lt (l := l) (t := t) (n := n) (by omega) (n - 1) (by omega)
    refine br_t (nI_pos' (by omega)) (nm_r (pk_sub (b := 1) (by omega)) ⟨n - 1 + 1, ht_xla ho h6 hl hn (by omega) (n - 1) (by omega) (ht_xsw (by omega) (by omega) ?_)⟩)
    refine nm_r (pk_sub (b := 1) (by omega)) (nm_r (nI_1 _) ⟨6 + 1, ?_⟩)
    refine ht_xrv hn 6 (ht_sw l t (ht_la l t (n - 1))) _ (t + 1) (n - 1) (ht_OA_sw ho (by omega) (by omega)) (ht_B6_sw h6 (by omega) (by omega)) (by rw [ht_sw_len]; exact hl) (by omega) (by omega) (by omega) (fun o' h' => hS _ o' ?_ h')
    unfold ht_nx; rw [e]
end
section
/-! X: the search over all orders -/
def ht_PR (a : Nat → Int32) (s : Nat) : Prop := ∀ j, j < 6 → a j = if s.testBit j = true then 1 else 0
theorem ht_el_t {s j : Nat} (h : s.testBit j = true) : ht_el s (j + 1) = ht_el s j ++ [j] := by
  unfold ht_el; rw [List.range_succ, List.filter_append]; simp [h]
theorem ht_el_f {s j : Nat} (h : ¬ s.testBit j = true) : ht_el s (j + 1) = ht_el s j := by
  unfold ht_el; rw [List.range_succ, List.filter_append]; simp [h]
theorem ht_el_len (s j : Nat) : (ht_el s j).length ≤ j := by
  have := List.length_filter_le (fun i => s.testBit i) (List.range j)
  rw [List.length_range] at this
  exact this
theorem ht_at_app (l : List Nat) (x i : Nat) (h : i < l.length) : ht_at (l ++ [x]) i = ht_at l i := by
  unfold ht_at
  rw [List.getD_eq_getElem?_getD, List.getD_eq_getElem?_getD, List.getElem?_append_left h]
theorem ht_at_app' (l : List Nat) (x : Nat) : ht_at (l ++ [x]) l.length = x := by
  unfold ht_at
  rw [List.getD_eq_getElem?_getD, List.getElem?_append_right (Nat.le_refl _), Nat.sub_self]
  rfl
theorem ht_OA_push {o : Nat → Int32} {l : List Nat} {x : Nat} (h : ht_OA o l) : ht_OA (upd o l.length (nI x)) (l ++ [x]) := by
  intro i hi
  rw [List.length_append] at hi
  have hi' : i < l.length + 1 := hi
  by_cases e : i = l.length
  · subst e; rw [pk_us, ht_at_app']
  · rw [pk_un e, ht_at_app _ _ _ (by omega)]; exact h i (by omega)
theorem ht_PRz {a : Nat → Int32} {s j : Nat} (hA : ht_PR a s) (hj : j < 6) : a j = 0 ↔ ¬ s.testBit j = true := by
  rw [hA j hj]
  by_cases h : s.testBit j = true
  · rw [if_pos h]; exact ⟨fun z => absurd z (by decide), fun z => absurd h z⟩
  · rw [if_neg h]; exact ⟨fun _ => h, fun _ => rfl⟩
theorem ht_xstart {post : SX → Prop} {s n : Nat} {a r p q b w : Nat → Int32} (hA : ht_PR a s) : ∀ (d j : Nat) (o : Nat → Int32), j + d = 6 → ht_OA o (ht_el s j) → (∀ o', ht_OA o' (ht_el s 6) → post (nI n, a, r, p, q, o', b, w)) → wX_startOrders_4 post (nI n) (d + 1) (nI (ht_el s j).length) (nI j) a r p q o b w := by
  intro d
  induction d with
  | zero =>
    intro j o hj ho h
    have e : j = 6 := by omega
    subst e
    exact br_t (by decide) (h o ho)
  | succ d ih =>
    intro j o hj ho h
    have hl := ht_el_len s j
    have cj : (nI j).toNatClampNeg = j := nI_clamp (by omega)
    refine br_f (nI_ge (b := 6) (by omega) (by decide)) ⟨vp_in_nI (by omega) (by omega), ?_⟩
    rw [cj]
    by_cases z : s.testBit j = true
    · refine br_f (fun z' => (ht_PRz hA (by omega)).mp z' z) ⟨vp_in_nI (by omega) (by omega), nm_r (e' := upd o (ht_el s j).length (nI j)) (by rw [nI_clamp (by omega)]) (nm_r (nI_1 _) (nm_r (nI_1 _) ?_))⟩
      have := ih (j + 1) (upd o (ht_el s j).length (nI j)) (by omega) (by rw [ht_el_t z]; exact ht_OA_push ho) h
      rw [ht_el_t z, List.length_append] at this
      exact this
    · refine br_t ((ht_PRz hA (by omega)).mpr z) (nm_r (nI_1 _) ?_)
      have := ih (j + 1) o (by omega) (by rw [ht_el_f z]; exact ho) h
      rw [ht_el_f z] at this
      exact this
theorem ht_xstartOrders {post : SX → Prop} {s n : Nat} {a r p q o b w : Nat → Int32} (hA : ht_PR a s) (h : ∀ o', ht_OA o' (ht_el s 6) → post (nI n, a, r, p, q, o', b, w)) : wpX_startOrders post (nI n, a, r, p, q, o, b, w) :=
  ⟨6 + 1, ht_xstart hA 6 0 o rfl (fun i hi => absurd hi (Nat.not_lt_zero _)) h⟩
theorem ht_ln_le {R P Q : Nat → Nat} (hB : ht_bd R P Q) : ∀ (l : List Nat) (k t g : Nat), (∀ i, i < l.length → ht_at l i < 6) → t ≤ 400 * k → g ≤ 400 * k + 200 → ht_ln R P Q l t g ≤ 400 * (k + l.length) + 200 := by
  intro l
  induction l with
  | nil => intro k t g _ _ hg; exact hg
  | cons x l ih =>
    intro k t g h6 ht hg
    obtain ⟨bR, bP, bQ⟩ := hB x (h6 0 (Nat.succ_pos _))
    have := ih (k + 1) (max t (R x) + P x) (max g (max t (R x) + P x + Q x)) (fun i hi => h6 (i + 1) (Nat.succ_lt_succ hi)) (by omega) (by omega)
    show ht_ln R P Q l _ _ ≤ 400 * (k + (l.length + 1)) + 200
    rw [show k + (l.length + 1) = k + 1 + l.length by omega]
    exact this
def ht_L (R P Q : Nat → Nat) (s c : Nat) : Nat := ht_ln R P Q (ht_or s c) 0 0
theorem ht_or_B6 {s c : Nat} (hs : s < 64) (hc : c < ht_N s) : ht_B6 (ht_or s c) := fun i hi => ((ht_good hs hc).1 _ (ht_at_mem _ _ hi)).1
theorem ht_L_le {R P Q : Nat → Nat} (hB : ht_bd R P Q) {s c : Nat} (hs : s < 64) (hc : c < ht_N s) : ht_L R P Q s c ≤ 2600 := by
  have := ht_ln_le hB (ht_or s c) 0 0 0 (ht_or_B6 hs hc) (by omega) (by omega)
  have h6 := (ht_nums hs).2.2.2
  rw [ht_or_len] at this
  unfold ht_L
  omega
def ht_ms (W : Nat → Bool) (L : Nat → Nat) (g0 : Nat) : Nat → Nat
  | 0 => g0
  | c + 1 => if W c = true ∧ L c < ht_ms W L g0 c then L c else ht_ms W L g0 c
def ht_am (W : Nat → Bool) (L : Nat → Nat) (g0 : Nat) : Nat → Nat
  | 0 => 0
  | c + 1 => if W c = true ∧ L c < ht_ms W L g0 c then c else ht_am W L g0 c
theorem ht_ms_le (W : Nat → Bool) (L : Nat → Nat) (g0 : Nat) : ∀ c, ht_ms W L g0 c ≤ g0 := by
  intro c
  induction c with
  | zero => exact Nat.le_refl _
  | succ c ih =>
    unfold ht_ms
    split
    · omega
    · exact ih
def ht_BO (b : Nat → Int32) (l : List Nat) : Prop := ht_OA b l
theorem ht_xloop {post : Int32 → SX → Prop} {s : Nat} {a r p q w : Nat → Int32} {R P Q : Nat → Nat} {x1 x2 x3 : Int32} {wl : List Nat → Bool} (hs : s < 64) (hD : ht_D r p q R P Q) (hB : ht_bd R P Q)
    (hW : ∀ (o b : Nat → Int32) (l : List Nat) (ps : Int32 → Prop), ht_OA o l → ht_B6 l → l.length = ht_cn s → ps (if wl l = true then 1 else 0) → wpX_isWanted ps (nI (ht_cn s), a, r, p, q, o, b, w) x1 x2 x3)
    (K : ∀ o' b', (ht_ms (fun c => wl (ht_or s c)) (ht_L R P Q s) 1000000 (ht_N s) < 1000000 → ht_OA b' (ht_or s (ht_am (fun c => wl (ht_or s c)) (ht_L R P Q s) 1000000 (ht_N s)))) → post (nI (ht_ms (fun c => wl (ht_or s c)) (ht_L R P Q s) 1000000 (ht_N s))) (nI (ht_cn s), a, r, p, q, o', b', w)) :
    ∀ (d c : Nat) (o b : Nat → Int32), c + d + 1 = ht_N s → ht_OA o (ht_or s c) → (ht_ms (fun c => wl (ht_or s c)) (ht_L R P Q s) 1000000 c < 1000000 → ht_OA b (ht_or s (ht_am (fun c => wl (ht_or s c)) (ht_L R P Q s) 1000000 c))) → wX_search_14 post x1 x2 x3 (d + 2) (nI (ht_ms (fun c => wl (ht_or s c)) (ht_L R P Q s) 1000000 c)) 1 (nI c) (nI (ht_cn s)) a r p q o b w := by
  intro d
  induction d with
  | zero =>
    intro c o b hc ho hb
    obtain ⟨-, hN0, hN7, hn⟩ := ht_nums hs
    have h6 := ht_or_B6 hs (show c < ht_N s by omega)
    have hlen := ht_or_len s c
    have hm := ht_ms_le (fun c => wl (ht_or s c)) (ht_L R P Q s) 1000000 c
    have hL := ht_L_le hB hs (show c < ht_N s by omega)
    have tail : ∀ (b : Nat → Int32) (g : Nat), g = ht_ms (fun c => wl (ht_or s c)) (ht_L R P Q s) 1000000 (c + 1) → (g < 1000000 → ht_OA b (ht_or s (ht_am (fun c => wl (ht_or s c)) (ht_L R P Q s) 1000000 (c + 1)))) → wX_search_58 post (wX_search_14 post x1 x2 x3 1) x1 x2 x3 (nI g) (nI c) (nI (ht_cn s)) a r p q o b w := by
      intro b g eg hb
      refine ht_xnext ho h6 hlen hn (fun e => ?_) (fun l' o' e ho' => ?_)
      · have ec : c + 1 = ht_N s := by omega
        refine nm_r (nI_1 _) ?_
        rw [eg, ec]
        rw [eg, ec] at hb
        exact br_c (fun _ => K _ _ hb) (fun _ => br_t rfl (K _ _ hb))
      · exfalso
        rcases ht_next hs (show c < ht_N s by omega) with ⟨_, h⟩ | ⟨h, _⟩
        · omega
        · rw [h] at e; exact nomatch e
    refine br_f (nI_ge (b := 720) (by omega) (by decide)) (br_f (by decide) (hW o b (ht_or s c) _ ho h6 hlen ?_))
    by_cases hw : wl (ht_or s c) = true
    · rw [if_pos hw]
      refine br_f (by decide) (ht_xorderLength hD hB hn hlen ho h6 (pk_le _ (ht_L R P Q s c) (fun z => ?_) (fun z => ?_)))
      · have e1 : ht_ms (fun c => wl (ht_or s c)) (ht_L R P Q s) 1000000 (c + 1) = ht_ms (fun c => wl (ht_or s c)) (ht_L R P Q s) 1000000 c := by
          conv => lhs; unfold ht_ms
          exact if_neg (fun h => by have := h.2; omega)
        have e2 : ht_am (fun c => wl (ht_or s c)) (ht_L R P Q s) 1000000 (c + 1) = ht_am (fun c => wl (ht_or s c)) (ht_L R P Q s) 1000000 c := by
          conv => lhs; unfold ht_am
          exact if_neg (fun h => by have := h.2; omega)
        exact tail b _ e1.symm (by rw [e2]; exact hb)
      · have e1 : ht_ms (fun c => wl (ht_or s c)) (ht_L R P Q s) 1000000 (c + 1) = ht_L R P Q s c := by
          conv => lhs; unfold ht_ms
          exact if_pos ⟨hw, z⟩
        have e2 : ht_am (fun c => wl (ht_or s c)) (ht_L R P Q s) 1000000 (c + 1) = c := by
          conv => lhs; unfold ht_am
          exact if_pos ⟨hw, z⟩
        refine ht_xkeepOrder hn (fun b' hb' => tail b' (ht_L R P Q s c) e1.symm (fun _ => ?_))
        rw [e2]
        intro i hi
        rw [hb' i (by omega)]
        exact ho i hi
    · rw [if_neg hw]
      have e1 : ht_ms (fun c => wl (ht_or s c)) (ht_L R P Q s) 1000000 (c + 1) = ht_ms (fun c => wl (ht_or s c)) (ht_L R P Q s) 1000000 c := by
        conv => lhs; unfold ht_ms
        exact if_neg (fun h => hw h.1)
      have e2 : ht_am (fun c => wl (ht_or s c)) (ht_L R P Q s) 1000000 (c + 1) = ht_am (fun c => wl (ht_or s c)) (ht_L R P Q s) 1000000 c := by
        conv => lhs; unfold ht_am
        exact if_neg (fun h => hw h.1)
      exact br_t rfl (tail b _ e1.symm (by rw [e2]; exact hb))
  | succ d ih =>
    intro c o b hc ho hb
    obtain ⟨-, hN0, hN7, hn⟩ := ht_nums hs
    have h6 := ht_or_B6 hs (show c < ht_N s by omega)
    have hlen := ht_or_len s c
    have hm := ht_ms_le (fun c => wl (ht_or s c)) (ht_L R P Q s) 1000000 c
    have hL := ht_L_le hB hs (show c < ht_N s by omega)
    have tail : ∀ (b : Nat → Int32) (g : Nat), g = ht_ms (fun c => wl (ht_or s c)) (ht_L R P Q s) 1000000 (c + 1) → (g < 1000000 → ht_OA b (ht_or s (ht_am (fun c => wl (ht_or s c)) (ht_L R P Q s) 1000000 (c + 1)))) → wX_search_58 post (wX_search_14 post x1 x2 x3 (d + 2)) x1 x2 x3 (nI g) (nI c) (nI (ht_cn s)) a r p q o b w := by
      intro b g eg hb
      refine ht_xnext ho h6 hlen hn (fun e => ?_) (fun l' o' e ho' => ?_)
      · exfalso
        rcases ht_next hs (show c < ht_N s by omega) with ⟨h, _⟩ | ⟨_, h⟩
        · rw [h] at e; exact nomatch e
        · omega
      · rcases ht_next hs (show c < ht_N s by omega) with ⟨h, _⟩ | ⟨_, h⟩
        · rw [h] at e
          cases e
          refine nm_r (nI_1 _) ?_
          rw [eg]
          rw [eg] at hb
          exact ih (c + 1) o' b (by omega) ho' hb
        · omega
    refine br_f (nI_ge (b := 720) (by omega) (by decide)) (br_f (by decide) (hW o b (ht_or s c) _ ho h6 hlen ?_))
    by_cases hw : wl (ht_or s c) = true
    · rw [if_pos hw]
      refine br_f (by decide) (ht_xorderLength hD hB hn hlen ho h6 (pk_le _ (ht_L R P Q s c) (fun z => ?_) (fun z => ?_)))
      · have e1 : ht_ms (fun c => wl (ht_or s c)) (ht_L R P Q s) 1000000 (c + 1) = ht_ms (fun c => wl (ht_or s c)) (ht_L R P Q s) 1000000 c := by
          conv => lhs; unfold ht_ms
          exact if_neg (fun h => by have := h.2; omega)
        have e2 : ht_am (fun c => wl (ht_or s c)) (ht_L R P Q s) 1000000 (c + 1) = ht_am (fun c => wl (ht_or s c)) (ht_L R P Q s) 1000000 c := by
          conv => lhs; unfold ht_am
          exact if_neg (fun h => by have := h.2; omega)
        exact tail b _ e1.symm (by rw [e2]; exact hb)
      · have e1 : ht_ms (fun c => wl (ht_or s c)) (ht_L R P Q s) 1000000 (c + 1) = ht_L R P Q s c := by
          conv => lhs; unfold ht_ms
          exact if_pos ⟨hw, z⟩
        have e2 : ht_am (fun c => wl (ht_or s c)) (ht_L R P Q s) 1000000 (c + 1) = c := by
          conv => lhs; unfold ht_am
          exact if_pos ⟨hw, z⟩
        refine ht_xkeepOrder hn (fun b' hb' => tail b' (ht_L R P Q s c) e1.symm (fun _ => ?_))
        rw [e2]
        intro i hi
        rw [hb' i (by omega)]
        exact ho i hi
    · rw [if_neg hw]
      have e1 : ht_ms (fun c => wl (ht_or s c)) (ht_L R P Q s) 1000000 (c + 1) = ht_ms (fun c => wl (ht_or s c)) (ht_L R P Q s) 1000000 c := by
        conv => lhs; unfold ht_ms
        exact if_neg (fun h => hw h.1)
      have e2 : ht_am (fun c => wl (ht_or s c)) (ht_L R P Q s) 1000000 (c + 1) = ht_am (fun c => wl (ht_or s c)) (ht_L R P Q s) 1000000 c := by
        conv => lhs; unfold ht_am
        exact if_neg (fun h => hw h.1)
      exact br_t rfl (tail b _ e1.symm (by rw [e2]; exact hb))
theorem ht_xsearch {post : Int32 → SX → Prop} {s : Nat} {a r p q o b w : Nat → Int32} {R P Q : Nat → Nat} {x1 x2 x3 : Int32} {wl : List Nat → Bool} (hs : s < 64) (hA : ht_PR a s) (hD : ht_D r p q R P Q) (hB : ht_bd R P Q)
    (hW : ∀ (o b : Nat → Int32) (l : List Nat) (ps : Int32 → Prop), ht_OA o l → ht_B6 l → l.length = ht_cn s → ps (if wl l = true then 1 else 0) → wpX_isWanted ps (nI (ht_cn s), a, r, p, q, o, b, w) x1 x2 x3)
    (K : ∀ o' b', (ht_ms (fun c => wl (ht_or s c)) (ht_L R P Q s) 1000000 (ht_N s) < 1000000 → ht_OA b' (ht_or s (ht_am (fun c => wl (ht_or s c)) (ht_L R P Q s) 1000000 (ht_N s)))) → post (nI (ht_ms (fun c => wl (ht_or s c)) (ht_L R P Q s) 1000000 (ht_N s))) (nI (ht_cn s), a, r, p, q, o', b', w)) :
    wpX_search post (nI (ht_cn s), a, r, p, q, o, b, w) x1 x2 x3 := by
  obtain ⟨h0, hN0, hN7, hn⟩ := ht_nums hs
  refine ht_xstartOrders hA (fun o' ho' => ⟨ht_N s - 1 + 2, ?_⟩)
  rw [← h0] at ho'
  exact ht_xloop hs hD hB hW K (ht_N s - 1) 0 o' b (by omega) ho' (fun h => absurd h (by show ¬ (1000000 < 1000000); omega))
end
section
/-! Y: jobs, count, nth, spell, place -/
def ht_YD (pt : Nat → Int32) (R P Q : Nat → Nat) : Prop := ∀ j, j < 6 → pt (3 * j) = nI (R j) ∧ pt (3 * j + 1) = nI (P j) ∧ pt (3 * j + 2) = nI (Q j)
theorem ht_yjobsL {post : Int32 → Prop} {s : Nat} {fn fo : Int32} {a pt l st : Nat → Int32} (hs : s < 64) (hA : ht_PR a s) (h : post (nI s)) : ∀ d j, j + d = 6 → wY_jobs_4 post fn fo a pt l st (d + 1) (nI (s % 2 ^ j)) (nI j) := by
  intro d
  induction d with
  | zero =>
    intro j hj
    have e : j = 6 := by omega
    subst e
    have e2 : s % 2 ^ 6 = s := Nat.mod_eq_of_lt hs
    rw [e2]
    exact br_t (by decide) h
  | succ d ih =>
    intro j hj
    have cj : (nI j).toNatClampNeg = j := nI_clamp (by omega)
    refine br_f (nI_ge (b := 6) (by omega) (by decide)) ⟨vp_in_nI (by omega) (by omega), ?_⟩
    rw [cj]
    by_cases z : s.testBit j = true
    · refine br_f (fun z' => (ht_PRz hA (by omega)).mp z' z) (nm_r (ht_orI hs (by omega) z) (nm_r (nI_1 _) ?_))
      exact ih (j + 1) (by omega)
    · refine br_t ((ht_PRz hA (by omega)).mpr z) (nm_r (e' := nI (s % 2 ^ (j + 1))) ?_ (nm_r (nI_1 _) ?_))
      · rw [Int32.or_zero, ht_orN hs (by omega) z]
      · exact ih (j + 1) (by omega)
theorem ht_yjobs {post : Int32 → Prop} {s : Nat} {fn fo : Int32} {a pt l st : Nat → Int32} (hs : s < 64) (hA : ht_PR a s) (h : post (nI s)) : wpY_jobs post (fn, fo, a, pt, l, st) := by
  have := ht_yjobsL (fn := fn) (fo := fo) (pt := pt) (l := l) (st := st) hs hA h 6 0 rfl
  rw [show s % 2 ^ 0 = 0 from Nat.mod_one s] at this
  exact ⟨7, this⟩
theorem ht_xjobsL {post : Int32 → Prop} {s : Nat} {f : Int32} {a r p q o b w : Nat → Int32} (hs : s < 64) (hA : ht_PR a s) (h : post (nI s)) : ∀ d j, j + d = 6 → wX_jobs_4 post f a r p q o b w (d + 1) (nI (s % 2 ^ j)) (nI j) := by
  intro d
  induction d with
  | zero =>
    intro j hj
    have e : j = 6 := by omega
    subst e
    have e2 : s % 2 ^ 6 = s := Nat.mod_eq_of_lt hs
    rw [e2]
    exact br_t (by decide) h
  | succ d ih =>
    intro j hj
    have cj : (nI j).toNatClampNeg = j := nI_clamp (by omega)
    refine br_f (nI_ge (b := 6) (by omega) (by decide)) ⟨vp_in_nI (by omega) (by omega), ?_⟩
    rw [cj]
    by_cases z : s.testBit j = true
    · refine br_f (fun z' => (ht_PRz hA (by omega)).mp z' z) (nm_r (ht_orI hs (by omega) z) (nm_r (nI_1 _) ?_))
      exact ih (j + 1) (by omega)
    · refine br_t ((ht_PRz hA (by omega)).mpr z) (nm_r (nI_1 _) ?_)
      have := ih (j + 1) (by omega)
      rw [← ht_orN hs (by omega) z] at this
      exact this
theorem ht_xjobs {post : Int32 → Prop} {s : Nat} {f : Int32} {a r p q o b w : Nat → Int32} (hs : s < 64) (hA : ht_PR a s) (h : post (nI s)) : wpX_jobs post (f, a, r, p, q, o, b, w) := by
  have := ht_xjobsL (f := f) (r := r) (p := p) (q := q) (o := o) (b := b) (w := w) hs hA h 6 0 rfl
  rw [show s % 2 ^ 0 = 0 from Nat.mod_one s] at this
  exact ⟨7, this⟩
theorem ht_ycountL {post : SY → Prop} {s : Nat} {a pt l st : Nat → Int32} (hA : ht_PR a s) (h : post (nI (ht_cn s), nI (ht_N s), a, pt, l, st)) : ∀ d j, j + d = 6 → wY_count_12 post a pt l st (d + 1) (nI j) (nI (ht_el s j).length) (nI (ht_fact (ht_el s j).length)) := by
  intro d
  induction d with
  | zero =>
    intro j hj
    have e : j = 6 := by omega
    subst e
    exact br_t (by decide) h
  | succ d ih =>
    intro j hj
    have cj : (nI j).toNatClampNeg = j := nI_clamp (by omega)
    have vj : vp_in (nI j) 6 := vp_in_nI (by omega) (by omega)
    refine br_f (nI_ge (b := 6) (by omega) (by decide)) ⟨vj, ?_⟩
    rw [cj]
    by_cases z : s.testBit j = true
    · have z' : ¬ a j = 0 := fun z' => (ht_PRz hA (by omega)).mp z' z
      refine br_f z' (nm_r (nI_1 _) ⟨vj, ?_⟩)
      rw [cj]
      refine br_f z' (nm_r (pk_mul _ _) (nm_r (nI_1 _) ?_))
      have := ih (j + 1) (by omega)
      rw [ht_el_t z, List.length_append] at this
      exact this
    · have z' : a j = 0 := (ht_PRz hA (by omega)).mpr z
      refine br_t z' (nm_r (Int32.add_zero _) ⟨vj, ?_⟩)
      rw [cj]
      refine br_t z' (nm_r (nI_1 _) ?_)
      have := ih (j + 1) (by omega)
      rw [ht_el_f z] at this
      exact this
theorem ht_ycount {post : SY → Prop} {s : Nat} {fn fo : Int32} {a pt l st : Nat → Int32} (hA : ht_PR a s) (h : post (nI (ht_cn s), nI (ht_N s), a, pt, l, st)) : wpY_count post (fn, fo, a, pt, l, st) :=
  ⟨7, ht_ycountL hA h 6 0 rfl⟩
theorem ht_ynthL {post : Int32 → Prop} {s : Nat} {fn fo : Int32} {a pt l st : Nat → Int32} (hs : s < 64) : ∀ m j x k, j + m = 6 → x + k < 1000 → post (nI (ht_nt m s k j)) → wY_nth_5 post (nI s) (nI (x + k)) fn fo a pt l st (m + 1) (nI x) (nI j) := by
  intro m
  induction m with
  | zero =>
    intro j x k hj hx h
    have e : j = 6 := by omega
    subst e
    exact br_t (by decide) h
  | succ m ih =>
    intro j x k hj hx h
    refine br_f (nI_ge (b := 6) (by omega) (by decide)) ?_
    unfold ht_nt at h
    by_cases z : s.testBit j = true
    · rw [if_pos z] at h
      refine br_t ((ht_bit hs (by omega)).mpr z) (pk_eq x (x + k) (fun e => ?_) (fun e => nm_r (nI_1 _) (nm_r (nI_1 _) ?_)))
      · rw [if_pos (by omega)] at h; exact h
      · rw [if_neg (by omega)] at h
        have := ih (j + 1) (x + 1) (k - 1) (by omega) (by omega) h
        rw [show x + 1 + (k - 1) = x + k by omega] at this
        exact this
    · rw [if_neg z] at h
      exact br_f (fun z' => z ((ht_bit hs (by omega)).mp z')) (nm_r (nI_1 _) (ih (j + 1) x k (by omega) hx h))
theorem ht_ynth {post : Int32 → Prop} {s k : Nat} {fn fo : Int32} {a pt l st : Nat → Int32} (hs : s < 64) (hk : k < 1000) (h : post (nI (ht_nt 6 s k 0))) : wpY_nth post (fn, fo, a, pt, l, st) (nI s) (nI k) := by
  have := ht_ynthL (post := post) (fn := fn) (fo := fo) (a := a) (pt := pt) (l := l) (st := st) hs 6 0 0 k rfl (by omega) h
  rw [Nat.zero_add] at this
  exact ⟨7, this⟩
theorem ht_nt_lt : ∀ m s k j, j + m = 6 → ht_nt m s k j < 6 := by
  intro m
  induction m with
  | zero => intro s k j _; show 0 < 6; omega
  | succ m ih =>
    intro s k j hj
    unfold ht_nt
    split
    · split
      · omega
      · exact ih _ _ _ (by omega)
    · exact ih _ _ _ (by omega)
theorem ht_fact_pos : ∀ m, 0 < ht_fact m := by
  intro m
  induction m with
  | zero => exact Nat.one_pos
  | succ m ih => exact Nat.mul_pos ih (Nat.succ_pos _)
theorem ht_fact_le : ∀ m, m ≤ 6 → ht_fact m ≤ 720 := by decide
def ht_yl (l : Nat → Int32) (k : Nat) : List Nat → Nat → Int32
  | [] => l
  | j :: L => ht_yl (upd l k (nI j)) (k + 1) L
def ht_ys (R P : Nat → Nat) (st : Nat → Int32) (t : Nat) : List Nat → Nat → Int32
  | [] => st
  | j :: L => ht_ys R P (upd st j (nI (max t (R j)))) (max t (R j) + P j) L
theorem ht_y130 {post : Int32 → SY → Prop} {J : Int32 → Int32 → Int32 → Int32 → Int32 → Int32 → (Nat → Int32) → (Nat → Int32) → (Nat → Int32) → (Nat → Int32) → Prop} {x2 x3 x4 fn fo : Int32} {g k j T : Nat} {a pt l st : Nat → Int32} {R P Q : Nat → Nat} (hY : ht_YD pt R P Q) (hB : ht_bd R P Q) (hj : j < 6) (hg : g < 10000) (hT : T < 10000)
    (h : J x2 x3 x4 (nI (T + P j)) (nI (max g (T + P j + Q j))) (nI (k + 1)) a pt l (upd st j (nI T))) : wY_spell_130 post J x2 x3 x4 (nI g) (nI k) (nI j) (nI T) (nI j) fn fo a pt l st := by
  obtain ⟨-, eP, eQ⟩ := hY j hj
  obtain ⟨bR, bP, bQ⟩ := hB j hj
  have cj : (nI j).toNatClampNeg = j := nI_clamp (by omega)
  have vj : vp_in (nI j) 6 := vp_in_nI hj (by omega)
  have e1 : (3 : Int32) * nI j + 1 = nI (3 * j + 1) := by rw [show (3 : Int32) * nI j = nI (3 * j) from pk_mul 3 j, nI_1]
  have e2 : (3 : Int32) * nI j + 2 = nI (3 * j + 2) := by rw [show (3 : Int32) * nI j = nI (3 * j) from pk_mul 3 j]; exact nI_add _ 2
  have v1 : vp_in (nI (3 * j + 1)) 18 := vp_in_nI (by omega) (by omega)
  have v2 : vp_in (nI (3 * j + 2)) 18 := vp_in_nI (by omega) (by omega)
  have c1 : (nI (3 * j + 1)).toNatClampNeg = 3 * j + 1 := nI_clamp (by omega)
  have c2 : (nI (3 * j + 2)).toNatClampNeg = 3 * j + 2 := nI_clamp (by omega)
  unfold wY_spell_130
  rw [cj, e1, e2, c1, c2, eP, eQ]
  refine ⟨vj, nm_e ⟨vj, v1, nm_r (e' := nI (T + P j)) (by rw [pk_us, nI_add]) ⟨v2, ?_⟩⟩⟩
  refine pk_le (T + P j + Q j) g (fun z => nm_r (nI_1 _) ?_) (fun z => ⟨v2, nm_r (nI_add _ _) (nm_r (nI_1 _) ?_)⟩) (nI_add _ _)
  · rw [Nat.max_eq_left z] at h; exact h
  · rw [Nat.max_eq_right (by omega)] at h; exact h
theorem ht_y65 {post : Int32 → SY → Prop} {J : Int32 → Int32 → Int32 → Int32 → Int32 → Int32 → (Nat → Int32) → (Nat → Int32) → (Nat → Int32) → (Nat → Int32) → Prop} {x3 z0 fn fo : Int32} {s t g k y j : Nat} {a pt l st : Nat → Int32} {R P Q : Nat → Nat} (hY : ht_YD pt R P Q) (hB : ht_bd R P Q) (hs : s < 64) (hj : j = ht_nt 6 s y 0) (hy : y < 1000) (hk : k < 6) (hg : g < 10000) (ht : t < 9000)
    (h : J z0 x3 (nI (ht_rm s j)) (nI (max t (R j) + P j)) (nI (max g (max t (R j) + P j + Q j))) (nI (k + 1)) a pt (upd l k (nI j)) (upd st j (nI (max t (R j))))) : wY_spell_65 post J x3 (nI s) (nI t) (nI g) (nI k) (nI y) z0 fn fo a pt l st := by
  have j6 : j < 6 := by rw [hj]; exact ht_nt_lt 6 s y 0 rfl
  obtain ⟨eR, -, -⟩ := hY j j6
  obtain ⟨bR, bP, bQ⟩ := hB j j6
  have e0 : (3 : Int32) * nI j = nI (3 * j) := pk_mul 3 j
  have v0 : vp_in (nI (3 * j)) 18 := vp_in_nI (by omega) (by omega)
  have c0 : (nI (3 * j)).toNatClampNeg = 3 * j := nI_clamp (by omega)
  have ck : (nI k).toNatClampNeg = k := nI_clamp (by omega)
  refine ht_ynth hs hy ?_
  rw [← hj, e0, c0, eR, ck]
  refine nm_r (ht_rmI hs j6).1 ⟨vp_in_nI hk (by omega), nm_e ⟨v0, pk_le (R j) t (fun z => ?_) (fun z => ⟨v0, ?_⟩)⟩⟩
  · refine ht_y130 hY hB j6 hg (by omega) ?_
    rw [Nat.max_eq_left z] at h; exact h
  · refine ht_y130 hY hB j6 hg (by omega) ?_
    rw [Nat.max_eq_right (by omega)] at h; exact h
theorem ht_yspellL {post : Int32 → SY → Prop} {fo : Int32} {n : Nat} {a pt : Nat → Int32} {R P Q : Nat → Nat} (hY : ht_YD pt R P Q) (hB : ht_bd R P Q) (hn : n ≤ 6) : ∀ (m k s c t g : Nat) (l st : Nat → Int32), k + m = n → s < 64 → c < ht_fact m → t ≤ 400 * k → g ≤ 400 * k + 200 → post (nI (ht_ln R P Q (ht_un m s c) t g)) (nI n, fo, a, pt, ht_yl l k (ht_un m s c), ht_ys R P st t (ht_un m s c)) → wY_spell_22 post (nI n) fo (m + 1) (nI c) (nI (ht_fact m)) (nI s) (nI t) (nI g) (nI k) a pt l st := by
  intro m
  induction m with
  | zero =>
    intro k s c t g l st hk hs hc ht hg h
    exact br_t (nI_le (by omega) (by omega)) h
  | succ m ih =>
    intro k s c t g l st hk hs hc ht hg h
    have hf := ht_fact_pos m
    have hfl := ht_fact_le (m + 1) (by omega)
    have hfe : ht_fact (m + 1) = ht_fact m * (m + 1) := rfl
    have hfm := ht_fact_le m (by omega)
    have ed : nI n - nI k = nI (m + 1) := by rw [pk_sub (by omega)]; exact congrArg nI (by omega)
    have edv : nI (ht_fact (m + 1)) / nI (m + 1) = nI (ht_fact m) := by
      rw [pk_div (by omega) (by omega) (by omega), hfe, Nat.mul_div_cancel _ (by omega)]
    have nle : ¬ nI (ht_fact m) ≤ 0 := nI_nle hf (by omega)
    have nz : ¬ nI (ht_fact m) = 0 := nI_ne0 hf (by omega)
    have hcd : c / ht_fact m ≤ c := Nat.div_le_self _ _
    refine br_f (nI_ge (by omega) (by omega)) ?_
    rw [ed, edv]
    refine ⟨nI_ne0 (by omega) (by omega), nm_e (br_f nle ⟨nz, ?_⟩)⟩
    rw [pk_div (by omega) hf (by omega)]
    refine br_f nle ⟨nz, ?_⟩
    rw [pk_rem (by omega) hf (by omega)]
    have j6 : ht_nt 6 s (c / ht_fact m) 0 < 6 := ht_nt_lt 6 s _ 0 rfl
    obtain ⟨bR, bP, bQ⟩ := hB _ j6
    refine ht_y65 hY hB hs rfl (by omega) (by omega) (by omega) (by omega) ?_
    exact ih (k + 1) _ _ _ _ _ _ (by omega) (ht_rmI hs j6).2 (Nat.mod_lt _ hf) (by omega) (by omega) h
theorem ht_yspell {post : Int32 → SY → Prop} {s c : Nat} {a pt l st : Nat → Int32} {R P Q : Nat → Nat} (hs : s < 64) (hA : ht_PR a s) (hY : ht_YD pt R P Q) (hB : ht_bd R P Q) (hc : c < ht_N s) (h : post (nI (ht_L R P Q s c)) (nI (ht_cn s), nI (ht_N s), a, pt, ht_yl l 0 (ht_or s c), ht_ys R P st 0 (ht_or s c))) : wpY_spell post (nI (ht_cn s), nI (ht_N s), a, pt, l, st) (nI c) := by
  refine ht_yjobs hs hA ⟨ht_cn s + 1, ?_⟩
  exact ht_yspellL hY hB (ht_nums hs).2.2.2 (ht_cn s) 0 s c 0 0 l st (by omega) hs hc (by omega) (by omega) h
theorem ht_yl_lo : ∀ (L : List Nat) (k : Nat) (l : Nat → Int32) (i : Nat), i < k → ht_yl l k L i = l i := by
  intro L
  induction L with
  | nil => intro k l i _; rfl
  | cons x L ih =>
    intro k l i hi
    show ht_yl (upd l k (nI x)) (k + 1) L i = l i
    rw [ih (k + 1) _ i (by omega), pk_un (by omega)]
theorem ht_yl_hi : ∀ (L : List Nat) (k : Nat) (l : Nat → Int32) (i : Nat), i < L.length → ht_yl l k L (k + i) = nI (ht_at L i) := by
  intro L
  induction L with
  | nil => intro k l i hi; exact absurd hi (Nat.not_lt_zero _)
  | cons x L ih =>
    intro k l i hi
    show ht_yl (upd l k (nI x)) (k + 1) L (k + i) = _
    cases i with
    | zero => rw [ht_yl_lo L (k + 1) _ (k + 0) (by omega), Nat.add_zero, pk_us]; rfl
    | succ i =>
      rw [show k + (i + 1) = k + 1 + i by omega, ih (k + 1) _ i (Nat.lt_of_succ_lt_succ hi)]
      rfl
theorem ht_yl_OA (L : List Nat) (l : Nat → Int32) : ht_OA (ht_yl l 0 L) L := fun i hi => by
  have := ht_yl_hi L 0 l i hi
  rw [Nat.zero_add] at this
  exact this
def ht_pl : List Nat → Nat → Nat → Nat → Nat
  | [], _, _, at_ => at_
  | x :: l, i, k, at_ => ht_pl l i (k + 1) (if x = i then k else at_)
theorem ht_yplL {post : Int32 → Prop} {n i : Nat} {fo : Int32} {a pt l st : Nat → Int32} (hn : n ≤ 6) (hi : i < 6) : ∀ (L : List Nat) (m k z : Nat), L.length < m → (∀ i, i < L.length → l (k + i) = nI (ht_at L i)) → (∀ i, i < L.length → ht_at L i < 6) → k + L.length = n → post (nI (ht_pl L i k z)) → wY_place_5 post (nI i) (nI n) fo a pt l st m (nI z) (nI k) := by
  intro L
  induction L with
  | nil =>
    intro m k z hm ho h6 hk h
    obtain ⟨m, rfl⟩ : ∃ m', m = m' + 1 := ⟨m - 1, by omega⟩
    have hk' : k = n := hk
    exact br_t (nI_le (by omega) (by omega)) h
  | cons x L ih =>
    intro m k z hm ho h6 hk h
    obtain ⟨m, rfl⟩ : ∃ m', m = m' + 1 := ⟨m - 1, by omega⟩
    have hk' : k + (L.length + 1) = n := hk
    have hm' : L.length + 1 < m + 1 := hm
    have hx6 : x < 6 := h6 0 (Nat.succ_pos _)
    have e0 : l (nI k).toNatClampNeg = nI x := by rw [nI_clamp (by omega)]; exact ho 0 (Nat.succ_pos _)
    have hO : ∀ i, i < L.length → l (k + 1 + i) = nI (ht_at L i) := fun i hi => by
      have := ho (i + 1) (Nat.succ_lt_succ hi)
      rw [show k + 1 + i = k + (i + 1) by omega]
      exact this
    have h7 : ∀ i, i < L.length → ht_at L i < 6 := fun i hi => h6 (i + 1) (Nat.succ_lt_succ hi)
    unfold ht_pl at h
    refine br_f (nI_ge (by omega) (by omega)) ⟨vp_in_nI (by omega) (by omega), pk_eq x i (fun e => nm_r (nI_1 _) ?_) (fun e => nm_r (nI_1 _) ?_) e0⟩
    · rw [if_pos e] at h; exact ih m (k + 1) k (by omega) hO h7 (by omega) h
    · rw [if_neg e] at h; exact ih m (k + 1) z (by omega) hO h7 (by omega) h
theorem ht_yplace {post : Int32 → Prop} {n i : Nat} {fo : Int32} {a pt l st : Nat → Int32} {L : List Nat} (hn : n ≤ 6) (hi : i < 6) (hl : L.length = n) (ho : ht_OA l L) (h6 : ht_B6 L) (h : post (nI (ht_pl L i 0 6))) : wpY_place post (nI n, fo, a, pt, l, st) (nI i) :=
  ⟨L.length + 1, ht_yplL hn hi L (L.length + 1) 0 6 (by omega) (fun i hi => by rw [Nat.zero_add]; exact ho i hi) h6 (by omega) h⟩
theorem ht_pl_not : ∀ (L : List Nat) (i k z : Nat), L.contains i = false → ht_pl L i k z = z := by
  intro L
  induction L with
  | nil => intro i k z _; rfl
  | cons x L ih =>
    intro i k z h
    rw [List.contains_cons, Bool.or_eq_false_iff] at h
    unfold ht_pl
    rw [if_neg (fun e => by rw [e] at h; simp at h), ih _ _ _ h.2]
theorem ht_pl_ge : ∀ (L : List Nat) (i k z : Nat), k ≤ z → k ≤ ht_pl L i k z := by
  intro L
  induction L with
  | nil => intro i k z h; exact h
  | cons x L ih =>
    intro i k z h
    unfold ht_pl
    by_cases e : x = i
    · rw [if_pos e]
      have : ∀ (L : List Nat) (k z w : Nat), w ≤ k → w ≤ z → w ≤ ht_pl L i k z := by
        intro L
        induction L with
        | nil => intro k z w _ h; exact h
        | cons y L ih2 =>
          intro k z w h1 h2
          unfold ht_pl
          refine ih2 _ _ _ (by omega) ?_
          split <;> omega
      exact this L (k + 1) k k (by omega) (by omega)
    · rw [if_neg e]
      have : ∀ (L : List Nat) (k z w : Nat), w ≤ k → w ≤ z → w ≤ ht_pl L i k z := by
        intro L
        induction L with
        | nil => intro k z w _ h; exact h
        | cons y L ih2 =>
          intro k z w h1 h2
          unfold ht_pl
          refine ih2 _ _ _ (by omega) ?_
          split <;> omega
      exact this L (k + 1) z k (by omega) h
theorem ht_pl_ge' (L : List Nat) (i k z : Nat) (h : k ≤ z) : k ≤ ht_pl L i k z := ht_pl_ge L i k z h
theorem ht_cb_pl : ∀ (L : List Nat) (i j k : Nat), i ≠ j → ht_nd L = true → k + L.length ≤ 6 → (ht_cb L i j = true ↔ ht_pl L i k 6 < ht_pl L j k 6) := by
  intro L
  induction L with
  | nil =>
    intro i j k _ _ _
    show (false = true ↔ 6 < 6)
    exact ⟨fun h => absurd h (by decide), fun h => absurd h (by omega)⟩
  | cons x L ih =>
    intro i j k hij hnd hk
    have hk' : k + (L.length + 1) ≤ 6 := hk
    unfold ht_nd at hnd
    rw [Bool.and_eq_true, Bool.not_eq_true'] at hnd
    unfold ht_cb ht_pl
    by_cases e : x = i
    · have e2 : x ≠ j := fun z => hij (e.symm.trans z)
      rw [if_pos e, if_pos e, if_neg e2, ht_pl_not L i _ _ (by rw [← e]; exact hnd.1)]
      have := ht_pl_ge L j (k + 1) 6 (by omega)
      exact ⟨fun _ => by omega, fun _ => rfl⟩
    · rw [if_neg e, if_neg e]
      by_cases e2 : x = j
      · rw [if_pos e2, if_pos e2, ht_pl_not L j _ _ (by rw [← e2]; exact hnd.1)]
        have := ht_pl_ge L i (k + 1) 6 (by omega)
        exact ⟨fun h => absurd h (by decide), fun h => absurd h (by omega)⟩
      · rw [if_neg e2, if_neg e2]
        exact ih i j (k + 1) hij hnd.2 (by omega)
end
section
/-! the least over all orders, on both sides; Y's leastOf, leastFirst, best; begins -/
theorem ht_ms_spec (W : Nat → Bool) (L : Nat → Nat) (g0 : Nat) : ∀ c, (ht_ms W L g0 c = g0 ∨ (ht_am W L g0 c < c ∧ W (ht_am W L g0 c) = true ∧ L (ht_am W L g0 c) = ht_ms W L g0 c)) ∧ (∀ i, i < c → W i = true → ht_ms W L g0 c ≤ L i) ∧ (∀ i, i < ht_am W L g0 c → W i = true → ht_ms W L g0 c < L i) := by
  intro c
  induction c with
  | zero => exact ⟨Or.inl rfl, fun i hi => absurd hi (Nat.not_lt_zero _), fun i hi => absurd hi (Nat.not_lt_zero _)⟩
  | succ c ih =>
    obtain ⟨h1, h2, h3⟩ := ih
    unfold ht_ms ht_am
    by_cases e : W c = true ∧ L c < ht_ms W L g0 c
    · rw [if_pos e, if_pos e]
      refine ⟨Or.inr ⟨by omega, e.1, rfl⟩, fun i hi hw => ?_, fun i hi hw => ?_⟩
      · by_cases ic : i = c
        · subst ic; omega
        · have := h2 i (by omega) hw; omega
      · have := h2 i hi hw; omega
    · rw [if_neg e, if_neg e]
      refine ⟨?_, fun i hi hw => ?_, h3⟩
      · rcases h1 with h1 | ⟨a, b, d⟩
        · exact Or.inl h1
        · exact Or.inr ⟨by omega, b, d⟩
      · by_cases ic : i = c
        · subst ic
          have : ¬ L i < ht_ms W L g0 i := fun z => e ⟨hw, z⟩
          omega
        · exact h2 i (by omega) hw
theorem ht_ms_att {W : Nat → Bool} {L : Nat → Nat} {g0 N : Nat} (hL : ∀ c, c < N → L c < g0) (hx : ∃ c, c < N ∧ W c = true) : ht_ms W L g0 N < g0 ∧ ht_am W L g0 N < N ∧ W (ht_am W L g0 N) = true ∧ L (ht_am W L g0 N) = ht_ms W L g0 N := by
  obtain ⟨c, hc, hw⟩ := hx
  obtain ⟨h1, h2, _⟩ := ht_ms_spec W L g0 N
  have a := h2 c hc hw
  have b := hL c hc
  rcases h1 with h1 | h1
  · omega
  · exact ⟨by omega, h1⟩
theorem ht_ms_eq {W : Nat → Bool} {L : Nat → Nat} {N : Nat} (hL : ∀ c, c < N → L c ≤ 2600) (hx : ∃ c, c < N ∧ W c = true) : ht_ms W L 100000 N = ht_ms W L 1000000 N := by
  obtain ⟨_, a1, a2, a3⟩ := ht_ms_att (W := W) (L := L) (g0 := 100000) (N := N) (fun c hc => by have := hL c hc; omega) hx
  obtain ⟨_, b1, b2, b3⟩ := ht_ms_att (W := W) (L := L) (g0 := 1000000) (N := N) (fun c hc => by have := hL c hc; omega) hx
  have c1 := (ht_ms_spec W L 100000 N).2.1 _ b1 b2
  have c2 := (ht_ms_spec W L 1000000 N).2.1 _ a1 a2
  omega
theorem ht_yleastL {post : Int32 → SY → Prop} {s : Nat} {a pt : Nat → Int32} {R P Q : Nat → Nat} {x1 x2 : Int32} {W : Nat → Bool} (hs : s < 64) (hA : ht_PR a s) (hY : ht_YD pt R P Q) (hB : ht_bd R P Q)
    (hW : (x1 = x2 ∧ ∀ c, W c = true) ∨ (∃ i j, i < 6 ∧ j < 6 ∧ i ≠ j ∧ x1 = nI i ∧ x2 = nI j ∧ ∀ c, W c = ht_cb (ht_or s c) i j))
    (K : ∀ l st, post (nI (ht_ms W (ht_L R P Q s) 100000 (ht_N s))) (nI (ht_cn s), nI (ht_N s), a, pt, l, st)) :
    ∀ (d c : Nat) (l st : Nat → Int32), c + d = ht_N s → wY_leastOf_10 post x1 x2 (d + 1) (nI (ht_ms W (ht_L R P Q s) 100000 c)) (nI c) (nI (ht_cn s)) (nI (ht_N s)) a pt l st := by
  intro d
  obtain ⟨-, hN0, hN7, hn⟩ := ht_nums hs
  induction d with
  | zero =>
    intro c l st hc
    have e : c = ht_N s := by omega
    subst e
    exact br_t (nI_le (by omega) (by omega)) (K l st)
  | succ d ih =>
    intro c l st hc
    have hc' : c < ht_N s := by omega
    have hm := ht_ms_le W (ht_L R P Q s) 100000 c
    have hL := ht_L_le hB hs hc'
    have ih' := ih (c + 1) (ht_yl l 0 (ht_or s c)) (ht_ys R P st 0 (ht_or s c)) (by omega)
    have eT : W c = true → ht_L R P Q s c < ht_ms W (ht_L R P Q s) 100000 c → ht_ms W (ht_L R P Q s) 100000 (c + 1) = ht_L R P Q s c := fun h1 h2 => if_pos ⟨h1, h2⟩
    have eF : ¬ (W c = true ∧ ht_L R P Q s c < ht_ms W (ht_L R P Q s) 100000 c) → ht_ms W (ht_L R P Q s) 100000 (c + 1) = ht_ms W (ht_L R P Q s) 100000 c := fun h => if_neg h
    refine br_f (nI_ge (by omega) (by omega)) (br_f (nI_ge (b := 720) (by omega) (by decide)) (ht_yspell hs hA hY hB hc' ?_))
    refine pk_le _ _ (fun z => nm_r (nI_1 _) ?_) (fun z => ?_)
    · rw [eF (fun h => by have := h.2; omega)] at ih'
      exact ih'
    · rcases hW with ⟨e, hw⟩ | ⟨i, j, hi, hj, hij, e1, e2, hw⟩
      · refine br_t e (nm_r (nI_1 _) ?_)
        rw [eT (hw c) z] at ih'
        exact ih'
      · subst e1 e2
        obtain ⟨-, hnd, -⟩ := ht_good hs hc'
        have h6 := ht_or_B6 hs hc'
        have hlen := ht_or_len s c
        have hO := ht_yl_OA (ht_or s c) l
        have hcb := ht_cb_pl (ht_or s c) i j 0 hij hnd (by omega)
        have hple : ∀ i, ht_pl (ht_or s c) i 0 6 < 2 ^ 31 := by
          intro i
          have : ∀ (M : List Nat) (k z : Nat), ht_pl M i k z ≤ k + M.length + z := by
            intro M
            induction M with
            | nil => intro k z; show z ≤ _; omega
            | cons y M ihm =>
              intro k z
              show ht_pl M i (k + 1) _ ≤ k + (M.length + 1) + z
              have := ihm (k + 1) (if y = i then k else z)
              have e : ∀ w, ht_pl M i (k + 1) w = w ∨ ht_pl M i (k + 1) w ≤ k + M.length := by
                intro w
                have : ∀ (M : List Nat) (k w : Nat), ht_pl M i k w = w ∨ ht_pl M i k w < k + M.length := by
                  intro M
                  induction M with
                  | nil => intro k w; exact Or.inl rfl
                  | cons y M ih3 =>
                    intro k w
                    show ht_pl M i (k + 1) _ = w ∨ ht_pl M i (k + 1) _ < k + (M.length + 1)
                    rcases ih3 (k + 1) (if y = i then k else w) with h | h
                    · rw [h]
                      by_cases e : y = i
                      · rw [if_pos e]; exact Or.inr (by omega)
                      · rw [if_neg e]; exact Or.inl rfl
                    · exact Or.inr (by omega)
                rcases this M (k + 1) w with h | h
                · exact Or.inl h
                · exact Or.inr (by omega)
              by_cases ey : y = i
              · rw [if_pos ey]
                rcases e k with h | h <;> omega
              · rw [if_neg ey]
                rcases e z with h | h <;> omega
          have := this (ht_or s c) 0 6
          omega
        refine br_f (fun e => hij ((nI_eq (by omega) (by omega)).mp e)) (ht_yplace hn hi hlen hO h6 (ht_yplace hn hj hlen hO h6 ?_))
        refine pk_le _ _ (fun y => nm_r (nI_1 _) ?_) (fun y => nm_r (nI_1 _) ?_) rfl rfl (hple j) (hple i)
        · rw [eF (fun h => by have h1 := h.1; rw [hw c, hcb] at h1; omega)] at ih'
          exact ih'
        · rw [eT (by rw [hw c, hcb]; exact y) z] at ih'
          exact ih'
theorem ht_yleastOf {post : Int32 → SY → Prop} {s : Nat} {fn fo : Int32} {a pt l st : Nat → Int32} {R P Q : Nat → Nat} {x1 x2 : Int32} {W : Nat → Bool} (hs : s < 64) (hA : ht_PR a s) (hY : ht_YD pt R P Q) (hB : ht_bd R P Q)
    (hW : (x1 = x2 ∧ ∀ c, W c = true) ∨ (∃ i j, i < 6 ∧ j < 6 ∧ i ≠ j ∧ x1 = nI i ∧ x2 = nI j ∧ ∀ c, W c = ht_cb (ht_or s c) i j))
    (K : ∀ l st, post (nI (ht_ms W (ht_L R P Q s) 100000 (ht_N s))) (nI (ht_cn s), nI (ht_N s), a, pt, l, st)) : wpY_leastOf post (fn, fo, a, pt, l, st) x1 x2 :=
  ht_ycount (fn := fn) (fo := fo) hA ⟨ht_N s + 1, ht_yleastL hs hA hY hB hW K (ht_N s) 0 l st (by omega)⟩
theorem ht_yfirstL {post : Int32 → SY → Prop} {s j : Nat} {a pt : Nat → Int32} {R P Q : Nat → Nat} (hs : s < 64) (hA : ht_PR a s) (hY : ht_YD pt R P Q) (hB : ht_bd R P Q) (hj : j < 6) (hn0 : 0 < ht_cn s)
    (K : ∀ l st, post (nI (ht_ms (fun c => decide (ht_at (ht_or s c) 0 = j)) (ht_L R P Q s) 100000 (ht_N s))) (nI (ht_cn s), nI (ht_N s), a, pt, l, st)) :
    ∀ (d c : Nat) (l st : Nat → Int32), c + d = ht_N s → wY_leastFirst_19 post (nI j) (d + 1) (nI (ht_ms (fun c => decide (ht_at (ht_or s c) 0 = j)) (ht_L R P Q s) 100000 c)) (nI c) (nI (ht_cn s)) (nI (ht_N s)) a pt l st := by
  intro d
  obtain ⟨-, hN0, hN7, hn⟩ := ht_nums hs
  induction d with
  | zero =>
    intro c l st hc
    have e : c = ht_N s := by omega
    subst e
    exact br_t (nI_le (by omega) (by omega)) (K l st)
  | succ d ih =>
    intro c l st hc
    have hc' : c < ht_N s := by omega
    have hm := ht_ms_le (fun c => decide (ht_at (ht_or s c) 0 = j)) (ht_L R P Q s) 100000 c
    have hL := ht_L_le hB hs hc'
    have ih' := ih (c + 1) (ht_yl l 0 (ht_or s c)) (ht_ys R P st 0 (ht_or s c)) (by omega)
    have hO := ht_yl_OA (ht_or s c) l 0 (by rw [ht_or_len]; exact hn0)
    have h6 := ht_or_B6 hs hc' 0 (by rw [ht_or_len]; exact hn0)
    refine br_f (nI_ge (by omega) (by omega)) (br_f (nI_ge (b := 720) (by omega) (by decide)) (ht_yspell hs hA hY hB hc' ?_))
    refine pk_eq (ht_at (ht_or s c) 0) j (fun e => ?_) (fun e => nm_r (nI_1 _) ?_) hO
    · refine pk_le _ _ (fun z => nm_r (nI_1 _) ?_) (fun z => nm_r (nI_1 _) ?_)
      · have eF : ht_ms (fun c => decide (ht_at (ht_or s c) 0 = j)) (ht_L R P Q s) 100000 (c + 1) = ht_ms (fun c => decide (ht_at (ht_or s c) 0 = j)) (ht_L R P Q s) 100000 c := if_neg (fun h => by have := h.2; omega)
        rw [eF] at ih'; exact ih'
      · have eT : ht_ms (fun c => decide (ht_at (ht_or s c) 0 = j)) (ht_L R P Q s) 100000 (c + 1) = ht_L R P Q s c := if_pos ⟨decide_eq_true e, z⟩
        rw [eT] at ih'; exact ih'
    · have eF : ht_ms (fun c => decide (ht_at (ht_or s c) 0 = j)) (ht_L R P Q s) 100000 (c + 1) = ht_ms (fun c => decide (ht_at (ht_or s c) 0 = j)) (ht_L R P Q s) 100000 c := if_neg (fun h => e (of_decide_eq_true h.1))
      rw [eF] at ih'; exact ih'
theorem ht_all {R P Q : Nat → Nat} (hB : ht_bd R P Q) {s : Nat} (hs : s < 64) : ∀ c, c < ht_N s → ht_L R P Q s c ≤ 2600 := fun _ hc => ht_L_le hB hs hc
theorem ht_ybestL {post : SY → Prop} {s m A : Nat} {a pt : Nat → Int32} {R P Q : Nat → Nat} (hs : s < 64) (hA : ht_PR a s) (hY : ht_YD pt R P Q) (hB : ht_bd R P Q) (hAN : A < ht_N s) (hm : ht_L R P Q s A = m) (hlt : ∀ i, i < A → m < ht_L R P Q s i)
    (K : ∀ l st, post (nI (ht_cn s), nI (ht_N s), a, pt, ht_yl l 0 (ht_or s A), ht_ys R P st 0 (ht_or s A))) :
    ∀ (d c : Nat) (l st : Nat → Int32), c + d = A → wY_best_9 post (nI m) (d + 1) (nI c) (nI (ht_cn s)) (nI (ht_N s)) a pt l st := by
  intro d
  obtain ⟨-, hN0, hN7, hn⟩ := ht_nums hs
  have hLA := ht_L_le hB hs hAN
  induction d with
  | zero =>
    intro c l st hc
    have e : c = A := by omega
    subst e
    refine br_f (nI_ge (b := 720) (by omega) (by decide)) (ht_yspell hs hA hY hB hAN ?_)
    exact br_t (by rw [hm]) (K l st)
  | succ d ih =>
    intro c l st hc
    have hL := ht_L_le hB hs (show c < ht_N s by omega)
    have h1 := hlt c (by omega)
    refine br_f (nI_ge (b := 720) (by omega) (by decide)) (ht_yspell hs hA hY hB (by omega) ?_)
    refine br_f (fun e => ?_) (nm_r (nI_1 _) (ih (c + 1) _ _ (by omega)))
    have := (nI_eq (by omega) (by omega)).mp e
    omega
theorem ht_ybest {post : SY → Prop} {s : Nat} {fn fo : Int32} {a pt l st : Nat → Int32} {R P Q : Nat → Nat} (hs : s < 64) (hA : ht_PR a s) (hY : ht_YD pt R P Q) (hB : ht_bd R P Q)
    (K : ∀ l st, post (nI (ht_cn s), nI (ht_N s), a, pt, ht_yl l 0 (ht_or s (ht_am (fun _ => true) (ht_L R P Q s) 1000000 (ht_N s))), ht_ys R P st 0 (ht_or s (ht_am (fun _ => true) (ht_L R P Q s) 1000000 (ht_N s))))) : wpY_best post (fn, fo, a, pt, l, st) := by
  obtain ⟨-, hN0, hN7, hn⟩ := ht_nums hs
  have hx : ∃ c, c < ht_N s ∧ (fun _ : Nat => true) c = true := ⟨0, hN0, rfl⟩
  obtain ⟨_, b1, b2, b3⟩ := ht_ms_att (W := fun _ => true) (L := ht_L R P Q s) (g0 := 1000000) (N := ht_N s) (fun c hc => by have := ht_L_le hB hs hc; omega) hx
  have b4 := (ht_ms_spec (fun _ => true) (ht_L R P Q s) 1000000 (ht_N s)).2.2
  have eq := ht_ms_eq (W := fun _ => true) (ht_all hB hs) hx
  refine ht_yleastOf (fn := fn) (fo := fo) (W := fun _ => true) hs hA hY hB (Or.inl ⟨rfl, fun _ => rfl⟩) (fun l st => ⟨ht_am (fun _ => true) (ht_L R P Q s) 1000000 (ht_N s) + 1, ?_⟩)
  rw [eq]
  exact ht_ybestL hs hA hY hB b1 b3 (fun i hi => b4 i hi rfl) K _ 0 l st (by omega)
def ht_bg (R P : Nat → Nat) : List Nat → Nat → Nat → Nat
  | [], _, _ => 0
  | x :: l, j, t => if x = j then max t (R x) else ht_bg R P l j (max t (R x) + P x)
theorem ht_ys_not (R P : Nat → Nat) : ∀ (L : List Nat) (st : Nat → Int32) (t j : Nat), L.contains j = false → ht_ys R P st t L j = st j := by
  intro L
  induction L with
  | nil => intro st t j _; rfl
  | cons x L ih =>
    intro st t j h
    rw [List.contains_cons, Bool.or_eq_false_iff] at h
    show ht_ys R P (upd st x _) _ L j = st j
    rw [ih _ _ _ h.2, pk_un (fun e => by rw [e] at h; simp at h)]
theorem ht_ys_bg (R P : Nat → Nat) : ∀ (L : List Nat) (st : Nat → Int32) (t j : Nat), ht_nd L = true → j ∈ L → ht_ys R P st t L j = nI (ht_bg R P L j t) := by
  intro L
  induction L with
  | nil => intro st t j _ h; exact absurd h List.not_mem_nil
  | cons x L ih =>
    intro st t j hnd h
    unfold ht_nd at hnd
    rw [Bool.and_eq_true, Bool.not_eq_true'] at hnd
    show ht_ys R P (upd st x _) _ L j = _
    unfold ht_bg
    by_cases e : x = j
    · subst e
      rw [if_pos rfl, ht_ys_not R P L _ _ _ hnd.1, pk_us]
    · rw [if_neg e]
      exact ih _ _ _ hnd.2 ((List.mem_cons.mp h).resolve_left (fun z => e z.symm))
theorem ht_xbegL {post : Int32 → SX → Prop} {n j : Nat} {a r p q o b w : Nat → Int32} {R P Q : Nat → Nat} (hD : ht_D r p q R P Q) (hB : ht_bd R P Q) (hn : n ≤ 6) (hj : j < 6) : ∀ (l : List Nat) (m k t : Nat), l.length < m → (∀ i, i < l.length → b (k + i) = nI (ht_at l i)) → (∀ i, i < l.length → ht_at l i < 6) → k + l.length = n → t ≤ 400 * k → j ∈ l → post (nI (ht_bg R P l j t)) (nI n, a, r, p, q, o, b, w) → wX_begins_22 post (nI j) (nI n) a r p q o b w m (nI t) (nI k) := by
  intro l
  induction l with
  | nil => intro m k t _ _ _ _ _ h; exact absurd h List.not_mem_nil
  | cons x l ih =>
    intro m k t hm ho h6 hk ht hjm h
    obtain ⟨m, rfl⟩ : ∃ m', m = m' + 1 := ⟨m - 1, by omega⟩
    have hk' : k + (l.length + 1) = n := hk
    have hm' : l.length + 1 < m + 1 := hm
    have hx6 : x < 6 := h6 0 (Nat.succ_pos _)
    obtain ⟨eR, eP, eQ⟩ := hD x hx6
    obtain ⟨bR, bP, bQ⟩ := hB x hx6
    have e0 : b (nI k).toNatClampNeg = nI x := by rw [nI_clamp (by omega)]; exact ho 0 (Nat.succ_pos _)
    have cx : (nI x).toNatClampNeg = x := nI_clamp (by omega)
    have vx : vp_in (nI x) 6 := vp_in_nI hx6 (by omega)
    refine br_f (nI_ge (by omega) (by omega)) ⟨vp_in_nI (by omega) (by omega), nm_r e0 ⟨vx, ?_⟩⟩
    rw [cx, eR, eP]
    unfold ht_bg at h
    refine ht_xlater (by omega) (by omega) (pk_eq x j (fun e => ?_) (fun e => ⟨vx, nm_r (nI_add _ _) (nm_r (nI_1 _) ?_)⟩))
    · rw [if_pos e] at h; exact h
    · rw [if_neg e] at h
      refine ih m (k + 1) _ (by omega) (fun i hi => ?_) (fun i hi => h6 (i + 1) (Nat.succ_lt_succ hi)) (by omega) (by omega) ((List.mem_cons.mp hjm).resolve_left (fun z => e z.symm)) h
      have := ho (i + 1) (Nat.succ_lt_succ hi)
      rw [show k + 1 + i = k + (i + 1) by omega]
      exact this
end
section
/-! interrupted: the greedy plan against the bounds of all sets -/
def ht_S (b : Nat → Bool) (f : Nat → Nat) : Nat → Nat
  | 0 => 0
  | n + 1 => ht_S b f n + if b n = true then f n else 0
def ht_mn (b : Nat → Bool) (f : Nat → Nat) : Nat → Nat
  | 0 => 100
  | n + 1 => if b n = true then min (ht_mn b f n) (f n) else ht_mn b f n
def ht_Bd (R P Q : Nat → Nat) (T : Nat) : Nat := ht_mn T.testBit R 6 + ht_S T.testBit P 6 + ht_mn T.testBit Q 6
def ht_PP (s : Nat) (P : Nat → Nat) (j : Nat) : Nat := if s.testBit j = true then P j else 0
theorem ht_S_ext {b b' : Nat → Bool} {f g : Nat → Nat} : ∀ n, (∀ j, j < n → (if b j = true then f j else 0) = (if b' j = true then g j else 0)) → ht_S b f n = ht_S b' g n := by
  intro n
  induction n with
  | zero => intro _; rfl
  | succ n ih =>
    intro h
    unfold ht_S
    rw [ih (fun j hj => h j (by omega)), h n (by omega)]
theorem ht_S_le {b : Nat → Bool} {f g : Nat → Nat} : ∀ n, (∀ j, j < n → f j ≤ g j) → ht_S b f n ≤ ht_S b g n := by
  intro n
  induction n with
  | zero => intro _; exact Nat.le_refl _
  | succ n ih =>
    intro h
    have h1 := ih (fun j hj => h j (by omega))
    have h2 := h n (by omega)
    unfold ht_S
    split <;> omega
theorem ht_S_ge {b : Nat → Bool} {f : Nat → Nat} {i : Nat} (hb : b i = true) : ∀ n, i < n → f i ≤ ht_S b f n := by
  intro n
  induction n with
  | zero => intro h; exact absurd h (Nat.not_lt_zero _)
  | succ n ih =>
    intro h
    unfold ht_S
    by_cases e : i = n
    · subst e; rw [if_pos hb]; omega
    · have := ih (by omega); omega
theorem ht_S_bd {b : Nat → Bool} {f : Nat → Nat} {k : Nat} : ∀ n, (∀ j, j < n → f j ≤ k) → ht_S b f n ≤ n * k := by
  intro n
  induction n with
  | zero => intro _; exact Nat.zero_le _
  | succ n ih =>
    intro h
    have h1 := ih (fun j hj => h j (by omega))
    have h2 := h n (by omega)
    unfold ht_S
    rw [Nat.succ_mul]
    split <;> omega
theorem ht_S_0 {b : Nat → Bool} {f : Nat → Nat} : ∀ n, (∀ j, j < n → f j = 0) → ht_S b f n = 0 := by
  intro n
  induction n with
  | zero => intro _; rfl
  | succ n ih =>
    intro h
    unfold ht_S
    rw [ih (fun j hj => h j (by omega)), h n (by omega)]
    split <;> rfl
def ht_dc (U : Nat → Nat) (i : Nat) : Nat → Nat := fun j => if j = i then U j - 1 else U j
theorem ht_S_lo {b : Nat → Bool} {U : Nat → Nat} {i : Nat} : ∀ n, n ≤ i → ht_S b (ht_dc U i) n = ht_S b U n := by
  intro n
  induction n with
  | zero => intro _; rfl
  | succ n ih =>
    intro h
    have e : ht_dc U i n = U n := if_neg (by omega)
    unfold ht_S
    rw [ih (by omega), e]
theorem ht_S_dec {b : Nat → Bool} {U : Nat → Nat} {i : Nat} (hU : 0 < U i) : ∀ n, i < n → ht_S b U n = ht_S b (ht_dc U i) n + if b i = true then 1 else 0 := by
  intro n
  induction n with
  | zero => intro h; exact absurd h (Nat.not_lt_zero _)
  | succ n ih =>
    intro h
    unfold ht_S
    by_cases e : i = n
    · subst e
      rw [ht_S_lo i (Nat.le_refl _)]
      have : ht_dc U i i = U i - 1 := if_pos rfl
      rw [this]
      split <;> omega
    · rw [ih (by omega)]
      have : ht_dc U i n = U n := if_neg (fun z => e z.symm)
      rw [this]
      omega
theorem ht_mn_le {b : Nat → Bool} {f : Nat → Nat} {i : Nat} (hb : b i = true) : ∀ n, i < n → ht_mn b f n ≤ f i := by
  intro n
  induction n with
  | zero => intro h; exact absurd h (Nat.not_lt_zero _)
  | succ n ih =>
    intro h
    unfold ht_mn
    by_cases e : i = n
    · subst e; rw [if_pos hb]; omega
    · have := ih (by omega)
      split <;> omega
theorem ht_mn_ge {b : Nat → Bool} {f : Nat → Nat} {t : Nat} (ht : t ≤ 100) : ∀ n, (∀ j, j < n → b j = true → t ≤ f j) → t ≤ ht_mn b f n := by
  intro n
  induction n with
  | zero => intro _; exact ht
  | succ n ih =>
    intro h
    have h1 := ih (fun j hj => h j (by omega))
    unfold ht_mn
    by_cases e : b n = true
    · rw [if_pos e]
      have := h n (by omega) e
      omega
    · rw [if_neg e]; exact h1
theorem ht_mn_100 (b : Nat → Bool) (f : Nat → Nat) : ∀ n, ht_mn b f n ≤ 100 := by
  intro n
  induction n with
  | zero => exact Nat.le_refl _
  | succ n ih =>
    unfold ht_mn
    split <;> omega
theorem ht_bools : ∀ b0 b1 b2 b3 b4 b5 : Bool, ∃ T, T < 64 ∧ T.testBit 0 = b0 ∧ T.testBit 1 = b1 ∧ T.testBit 2 = b2 ∧ T.testBit 3 = b3 ∧ T.testBit 4 = b4 ∧ T.testBit 5 = b5 := by
  intro b0 b1 b2 b3 b4 b5
  refine ⟨b0.toNat + 2 * b1.toNat + 4 * b2.toNat + 8 * b3.toNat + 16 * b4.toNat + 32 * b5.toNat, ?_⟩
  revert b0 b1 b2 b3 b4 b5
  decide +kernel
theorem ht_mask (p : Nat → Bool) : ∃ T, T < 64 ∧ ∀ j, j < 6 → T.testBit j = p j := by
  obtain ⟨T, h, h0, h1, h2, h3, h4, h5⟩ := ht_bools (p 0) (p 1) (p 2) (p 3) (p 4) (p 5)
  refine ⟨T, h, fun j hj => ?_⟩
  rcases (show j = 0 ∨ j = 1 ∨ j = 2 ∨ j = 3 ∨ j = 4 ∨ j = 5 by omega) with rfl | rfl | rfl | rfl | rfl | rfl <;> assumption
theorem ht_sub_of {T s : Nat} (hT : T < 64) (h : ∀ j, j < 6 → T.testBit j = true → s.testBit j = true) : T &&& s = T := by
  apply Nat.eq_of_testBit_eq
  intro j
  rw [Nat.testBit_and]
  by_cases hj : j < 6
  · cases e : T.testBit j with
    | false => rfl
    | true => rw [h j hj e]; rfl
  · have : T < 2 ^ j := Nat.lt_of_lt_of_le hT (Nat.pow_le_pow_right (n := 2) (by decide) (show 6 ≤ j by omega))
    rw [Nat.testBit_lt_two_pow this]; rfl
theorem ht_sub_to {T s j : Nat} (h : T &&& s = T) (ht : T.testBit j = true) : s.testBit j = true := by
  rw [← h, Nat.testBit_and, Bool.and_eq_true] at ht
  exact ht.2
theorem ht_ne : ∀ T, T < 64 → 1 ≤ T → ∃ j, j < 6 ∧ T.testBit j = true := by
  have h : (List.range 64).all (fun T => T == 0 || (List.range 6).any (fun j => T.testBit j)) = true := by decide +kernel
  intro T hT h1
  have := ht_allr h hT
  rw [Bool.or_eq_true, beq_iff_eq] at this
  rcases this with h | h
  · omega
  · simp only [List.any_eq_true, List.mem_range] at h
    exact h
def ht_I (s : Nat) (R P Q U : Nat → Nat) (t g : Nat) : Prop :=
  (∀ j, j < 6 → U j ≤ ht_PP s P j) ∧
  (∀ q, ∃ t0, (∀ j, j < 6 → q ≤ Q j → R j < t0 → U j = 0) ∧ t + ht_S (fun j => decide (q ≤ Q j ∧ t0 ≤ R j)) U 6 ≤ t0 + ht_S (fun j => decide (q ≤ Q j ∧ t0 ≤ R j)) (ht_PP s P) 6) ∧
  (g = 0 ∨ ∃ T, 1 ≤ T ∧ T < 64 ∧ T &&& s = T ∧ g ≤ ht_Bd R P Q T) ∧
  (∀ T, 1 ≤ T → T < 64 → T &&& s = T → ht_S T.testBit (ht_PP s P) 6 ≤ ht_S T.testBit U 6 + (t - ht_mn T.testBit R 6) ∧ (ht_S T.testBit U 6 = 0 → ht_Bd R P Q T ≤ g)) ∧
  ht_S (fun _ => true) U 6 ≤ 72 ∧ (40 ≤ t → ht_S (fun _ => true) U 6 + t ≤ 112)
def ht_sm (s : Nat) (R P Q : Nat → Nat) : Prop := ∀ j, j < 6 → R j ≤ 40 ∧ P j ≤ 12 ∧ Q j ≤ 40 ∧ (s.testBit j = true → 1 ≤ P j)
theorem ht_I0 {s : Nat} {R P Q U : Nat → Nat} (hM : ht_sm s R P Q) (hU : ∀ j, j < 6 → U j = ht_PP s P j) : ht_I s R P Q U 0 0 := by
  have e : ∀ b, ht_S b U 6 = ht_S b (ht_PP s P) 6 := fun b => ht_S_ext 6 (fun j hj => by rw [hU j hj])
  have hPP : ∀ j, j < 6 → ht_PP s P j ≤ 12 := by
    intro j hj
    have := (hM j hj).2.1
    unfold ht_PP
    split <;> omega
  refine ⟨fun j hj => by rw [hU j hj]; exact Nat.le_refl _, fun q => ⟨0, fun j _ _ h => absurd h (Nat.not_lt_zero _), by rw [e]; exact Nat.le_refl _⟩, Or.inl rfl, fun T h1 h64 hs => ⟨by rw [e]; omega, fun h => ?_⟩, ?_, fun h => absurd h (by omega)⟩
  · exfalso
    obtain ⟨j, hj, ht⟩ := ht_ne T h64 h1
    have h2 := ht_S_ge (b := T.testBit) (f := U) ht 6 hj
    have h3 := hU j hj
    have h4 := ht_sub_to hs ht
    have h5 := (hM j hj).2.2.2 h4
    unfold ht_PP at h3
    rw [if_pos h4] at h3
    omega
  · rw [e]
    exact ht_S_bd 6 hPP
theorem ht_Inone {s : Nat} {R P Q U : Nat → Nat} {t g : Nat} (hM : ht_sm s R P Q) (I : ht_I s R P Q U t g) (ht : t < 112) (hn : ∀ j, j < 6 → 0 < U j → ¬ R j ≤ t) : ht_I s R P Q U (t + 1) g := by
  obtain ⟨h1, h2, h3, h4, h5, h6⟩ := I
  refine ⟨h1, fun q => ⟨t + 1, fun j hj _ hr => ?_, ?_⟩, h3, fun T a b c => ⟨?_, (h4 T a b c).2⟩, h5, fun h => ?_⟩
  · have := hn j hj
    omega
  · have := ht_S_le (b := fun j => decide (q ≤ Q j ∧ t + 1 ≤ R j)) 6 h1
    omega
  · have := (h4 T a b c).1
    omega
  · by_cases e : 40 ≤ t
    · have : ht_S (fun _ => true) U 6 = 0 := ht_S_0 6 (fun j hj => by
        have a := hn j hj
        have b := (hM j hj).1
        omega)
      omega
    · omega
theorem ht_Isome {s : Nat} {R P Q U : Nat → Nat} {t g i : Nat} (hM : ht_sm s R P Q) (I : ht_I s R P Q U t g) (ht : t < 112) (hi : i < 6) (hU : 0 < U i) (hR : R i ≤ t) (hQ : ∀ j, j < 6 → 0 < U j → R j ≤ t → Q j ≤ Q i) : ht_I s R P Q (ht_dc U i) (t + 1) (max g (t + 1 + Q i)) := by
  obtain ⟨h1, h2, h3, h4, h5, h6⟩ := I
  have hle : ∀ j, ht_dc U i j ≤ U j := by
    intro j
    unfold ht_dc
    split <;> omega
  have dall := ht_S_dec (b := fun _ => true) hU 6 hi
  rw [if_pos rfl] at dall
  refine ⟨fun j hj => Nat.le_trans (hle j) (h1 j hj), fun q => ?_, ?_, fun T a b c => ?_, by omega, fun h => ?_⟩
  · by_cases e : q ≤ Q i
    · obtain ⟨t0, k1, k2⟩ := h2 q
      refine ⟨t0, fun j hj hq hr => ?_, ?_⟩
      · have := k1 j hj hq hr
        have := hle j
        omega
      · have ht0 : t0 ≤ R i := by
          have := k1 i hi e
          omega
        have d := ht_S_dec (b := fun j => decide (q ≤ Q j ∧ t0 ≤ R j)) hU 6 hi
        rw [if_pos (decide_eq_true ⟨e, ht0⟩)] at d
        omega
    · refine ⟨t + 1, fun j hj hq hr => ?_, ?_⟩
      · have a := hQ j hj
        have b := hle j
        omega
      · have := ht_S_le (b := fun j => decide (q ≤ Q j ∧ t + 1 ≤ R j)) 6 (fun j hj => Nat.le_trans (hle j) (h1 j hj))
        omega
  · right
    by_cases e : g ≤ t + 1 + Q i
    · obtain ⟨t0, k1, k2⟩ := h2 (Q i)
      have ht0 : t0 ≤ R i := by
        have := k1 i hi (Nat.le_refl _)
        omega
      obtain ⟨bR, bP, bQ, -⟩ := hM i hi
      obtain ⟨T, T64, hT⟩ := ht_mask (fun j => s.testBit j && decide (Q i ≤ Q j ∧ t0 ≤ R j))
      have si : s.testBit i = true := by
        have := h1 i hi
        unfold ht_PP at this
        split at this
        · assumption
        · omega
      have Ti : T.testBit i = true := by
        rw [hT i hi, si]
        exact decide_eq_true ⟨Nat.le_refl _, ht0⟩
      have Tj : ∀ j, j < 6 → T.testBit j = true → s.testBit j = true ∧ Q i ≤ Q j ∧ t0 ≤ R j := by
        intro j hj hb
        rw [hT j hj, Bool.and_eq_true, decide_eq_true_iff] at hb
        exact hb
      refine ⟨T, ?_, T64, ht_sub_of T64 (fun j hj hb => (Tj j hj hb).1), ?_⟩
      · rcases Nat.eq_zero_or_pos T with z | z
        · rw [z, Nat.zero_testBit] at Ti; exact absurd Ti (by decide)
        · exact z
      · have m1 : t0 ≤ ht_mn T.testBit R 6 := ht_mn_ge (by omega) 6 (fun j hj hb => (Tj j hj hb).2.2)
        have m2 : Q i ≤ ht_mn T.testBit Q 6 := ht_mn_ge (by omega) 6 (fun j hj hb => (Tj j hj hb).2.1)
        have eS : ht_S T.testBit P 6 = ht_S (fun j => decide (Q i ≤ Q j ∧ t0 ≤ R j)) (ht_PP s P) 6 := by
          refine ht_S_ext 6 (fun j hj => ?_)
          rw [hT j hj]
          unfold ht_PP
          cases s.testBit j <;> cases decide (Q i ≤ Q j ∧ t0 ≤ R j) <;> rfl
        have hS := ht_S_ge (b := fun j => decide (Q i ≤ Q j ∧ t0 ≤ R j)) (f := U) (decide_eq_true ⟨Nat.le_refl _, ht0⟩) 6 hi
        unfold ht_Bd
        omega
    · rcases h3 with h3 | ⟨T, a, b, c, d⟩
      · omega
      · exact ⟨T, a, b, c, by omega⟩
  · obtain ⟨k1, k2⟩ := h4 T a b c
    have d := ht_S_dec (b := T.testBit) hU 6 hi
    by_cases e : T.testBit i = true
    · rw [if_pos e] at d
      have m1 := ht_mn_le (f := R) e 6 hi
      have m2 := ht_mn_le (f := Q) e 6 hi
      refine ⟨by omega, fun z => ?_⟩
      have eS : ht_S T.testBit P 6 = ht_S T.testBit (ht_PP s P) 6 := by
        refine ht_S_ext 6 (fun j hj => ?_)
        by_cases z : T.testBit j = true
        · rw [if_pos z, if_pos z]
          unfold ht_PP
          rw [if_pos (ht_sub_to c z)]
        · rw [if_neg z, if_neg z]
      unfold ht_Bd
      omega
    · rw [if_neg e] at d
      exact ⟨by omega, fun z => by have := k2 (by omega); omega⟩
  · by_cases e : 40 ≤ t
    · have := h6 e; omega
    · omega
theorem ht_Iend {s : Nat} {R P Q U : Nat → Nat} {g m : Nat} (I : ht_I s R P Q U 112 g) (hm1 : ∀ T, 1 ≤ T → T < 64 → T &&& s = T → ht_Bd R P Q T ≤ m) (hm2 : m = 0 ∨ ∃ T, 1 ≤ T ∧ T < 64 ∧ T &&& s = T ∧ m = ht_Bd R P Q T) : m = g := by
  obtain ⟨h1, h2, h3, h4, h5, h6⟩ := I
  have h0 : ht_S (fun _ => true) U 6 = 0 := by have := h6 (by omega); omega
  have hz : ∀ j, j < 6 → U j = 0 := by
    intro j hj
    have := ht_S_ge (b := fun _ => true) (f := U) (i := j) rfl 6 hj
    omega
  have hall : ∀ T, 1 ≤ T → T < 64 → T &&& s = T → ht_Bd R P Q T ≤ g := fun T a b c => (h4 T a b c).2 (ht_S_0 6 hz)
  have le1 : m ≤ g := by
    rcases hm2 with h | ⟨T, a, b, c, d⟩
    · omega
    · rw [d]; exact hall T a b c
  have le2 : g ≤ m := by
    rcases h3 with h | ⟨T, a, b, c, d⟩
    · omega
    · exact Nat.le_trans d (hm1 T a b c)
  omega
end
section
/-! interrupted: the walks -/
def ht_UW (w : Nat → Int32) (U : Nat → Nat) : Prop := ∀ j, j < 6 → w j = nI (U j) ∧ U j ≤ 12
def ht_ch (R Q U : Nat → Nat) (t j : Nat) (x : Int32) : Prop := (x = -1 ∧ ∀ i, i < j → 0 < U i → ¬ R i ≤ t) ∨ (∃ c, x = nI c ∧ c < j ∧ 0 < U c ∧ R c ≤ t ∧ ∀ i, i < j → 0 < U i → R i ≤ t → Q i ≤ Q c)
theorem ht_xmpL {post : Int32 → Prop} {f : Int32} {t : Nat} {a r p q o b w : Nat → Int32} {R P Q U : Nat → Nat} (hD : ht_D r p q R P Q) (hB : ht_bd R P Q) (hU : ht_UW w U) (ht : t < 1000) (K : ∀ x, ht_ch R Q U t 6 x → post x) : ∀ (d j : Nat) (x : Int32), j + d = 6 → ht_ch R Q U t j x → wX_mostPressing_4 post (nI t) f a r p q o b w (d + 1) x (nI j) := by
  intro d
  induction d with
  | zero =>
    intro j x hj hx
    have e : j = 6 := by omega
    subst e
    exact br_t (by decide) (K x hx)
  | succ d ih =>
    intro j x hj hx
    have j6 : j < 6 := by omega
    obtain ⟨eR, eP, eQ⟩ := hD j j6
    obtain ⟨bR, bP, bQ⟩ := hB j j6
    obtain ⟨eU, bU⟩ := hU j j6
    have cj : (nI j).toNatClampNeg = j := nI_clamp (by omega)
    have vj : vp_in (nI j) 6 := vp_in_nI j6 (by omega)
    refine br_f (nI_ge (b := 6) j6 (by decide)) ⟨vj, ?_⟩
    rw [cj, eR, eQ, eU]
    refine pk_le (U j) 0 (fun z => nm_r (nI_1 _) (ih (j + 1) x (by omega) ?_)) (fun z => ⟨vj, pk_lt t (R j) (fun z2 => nm_r (nI_1 _) (ih (j + 1) x (by omega) ?_)) (fun z2 => ?_)⟩)
    · rcases hx with ⟨e, h⟩ | ⟨c, e, hc, h1, h2, h3⟩
      · refine Or.inl ⟨e, fun i hi hu => ?_⟩
        by_cases ij : i = j
        · subst ij; omega
        · exact h i (by omega) hu
      · refine Or.inr ⟨c, e, by omega, h1, h2, fun i hi hu => ?_⟩
        by_cases ij : i = j
        · subst ij; omega
        · exact h3 i (by omega) hu
    · rcases hx with ⟨e, h⟩ | ⟨c, e, hc, h1, h2, h3⟩
      · refine Or.inl ⟨e, fun i hi hu => ?_⟩
        by_cases ij : i = j
        · subst ij; omega
        · exact h i (by omega) hu
      · refine Or.inr ⟨c, e, by omega, h1, h2, fun i hi hu hr => ?_⟩
        by_cases ij : i = j
        · subst ij; omega
        · exact h3 i (by omega) hu hr
    · rcases hx with ⟨e, h⟩ | ⟨c, e, hc, h1, h2, h3⟩
      · refine br_t e (nm_r (nI_1 _) (ih (j + 1) (nI j) (by omega) (Or.inr ⟨j, rfl, by omega, z, z2, fun i hi hu hr => ?_⟩)))
        by_cases ij : i = j
        · subst ij; omega
        · exact absurd hr (h i (by omega) hu)
      · subst e
        obtain ⟨eRc, ePc, eQc⟩ := hD c (by omega)
        obtain ⟨bRc, bPc, bQc⟩ := hB c (by omega)
        have cc : (nI c).toNatClampNeg = c := nI_clamp (by omega)
        refine br_f (ht_nm1 (by omega)) ⟨vj, vp_in_nI (by omega) (by omega), ?_⟩
        rw [cc, eQc]
        refine pk_le (Q j) (Q c) (fun z3 => nm_r (nI_1 _) (ih (j + 1) (nI c) (by omega) (Or.inr ⟨c, rfl, by omega, h1, h2, fun i hi hu hr => ?_⟩))) (fun z3 => nm_r (nI_1 _) (ih (j + 1) (nI j) (by omega) (Or.inr ⟨j, rfl, by omega, z, z2, fun i hi hu hr => ?_⟩)))
        · by_cases ij : i = j
          · subst ij; omega
          · exact h3 i (by omega) hu hr
        · by_cases ij : i = j
          · subst ij; omega
          · have := h3 i (by omega) hu hr; omega
theorem ht_xmp {post : Int32 → Prop} {f : Int32} {t : Nat} {a r p q o b w : Nat → Int32} {R P Q U : Nat → Nat} (hD : ht_D r p q R P Q) (hB : ht_bd R P Q) (hU : ht_UW w U) (ht : t < 1000) (K : ∀ x, ht_ch R Q U t 6 x → post x) : wpX_mostPressing post (f, a, r, p, q, o, b, w) (nI t) :=
  ⟨7, ht_xmpL hD hB hU ht K 6 0 (-1) rfl (Or.inl ⟨rfl, fun i hi => absurd hi (Nat.not_lt_zero _)⟩)⟩
theorem ht_x43 {post : Int32 → SX → Prop} {s : Nat} {f : Int32} {a r p q o b : Nat → Int32} {R P Q : Nat → Nat} (hD : ht_D r p q R P Q) (hB : ht_bd R P Q) (hM : ht_sm s R P Q) (K : ∀ g U w, g < 100000 → ht_I s R P Q U 112 g → post (nI g) (f, a, r, p, q, o, b, w)) : ∀ (d t g : Nat) (U : Nat → Nat) (w : Nat → Int32), t + d = 112 → g < 1000 → ht_UW w U → ht_I s R P Q U t g → wX_interrupted_43 post f (d + 1) (nI g) (nI t) a r p q o b w := by
  intro d
  induction d with
  | zero =>
    intro t g U w ht hg hU I
    have e : t = 112 := by omega
    subst e
    exact br_t (by decide) (K g U w (by omega) I)
  | succ d ih =>
    intro t g U w ht hg hU I
    refine br_f (nI_ge (b := 112) (by omega) (by decide)) (ht_xmp hD hB hU (by omega) (fun x hx => ?_))
    rcases hx with ⟨e, h⟩ | ⟨c, e, hc, h1, h2, h3⟩
    · exact br_t e (nm_r (nI_1 _) (ih (t + 1) g U w (by omega) hg hU (ht_Inone hM I (by omega) h)))
    · subst e
      obtain ⟨eR, eP, eQ⟩ := hD c hc
      obtain ⟨bR, bP, bQ⟩ := hB c hc
      obtain ⟨eU, bU⟩ := hU c hc
      have cc : (nI c).toNatClampNeg = c := nI_clamp (by omega)
      have vc : vp_in (nI c) 6 := vp_in_nI hc (by omega)
      have bQ' := (hM c hc).2.2.1
      refine br_f (ht_nm1 (by omega)) ⟨vc, vc, ?_⟩
      rw [cc, eU, eQ, nI_1, nI_add]
      refine nm_e ⟨vc, ht_xlater (by omega) (by omega) (nm_r rfl ?_)⟩
      refine ih (t + 1) (max g (t + 1 + Q c)) (ht_dc U c) _ (by omega) (by omega) (fun j hj => ?_) (ht_Isome hM I (by omega) hc h1 h2 h3)
      obtain ⟨eUj, bUj⟩ := hU j hj
      unfold ht_dc
      by_cases e : j = c
      · subst e
        rw [pk_us, if_pos rfl]
        exact ⟨pk_sub (b := 1) h1, by omega⟩
      · rw [pk_un e, if_neg e]
        exact ⟨eUj, bUj⟩
theorem ht_x2 {post : Int32 → SX → Prop} {s : Nat} {f : Int32} {a r p q o b : Nat → Int32} {R P Q : Nat → Nat} (hA : ht_PR a s) (hD : ht_D r p q R P Q) (hB : ht_bd R P Q) (hM : ht_sm s R P Q) (K : ∀ g U w, g < 100000 → ht_I s R P Q U 112 g → post (nI g) (f, a, r, p, q, o, b, w)) : ∀ (d j : Nat) (w : Nat → Int32), j + d = 6 → (∀ i, i < j → w i = nI (ht_PP s P i)) → wX_interrupted_2 post f (d + 1) (nI j) a r p q o b w := by
  intro d
  induction d with
  | zero =>
    intro j w hj hw
    have e : j = 6 := by omega
    subst e
    refine br_t (by decide) ⟨113, ht_x43 hD hB hM K 112 0 0 (ht_PP s P) w rfl (by omega) (fun i hi => ⟨hw i hi, ?_⟩) (ht_I0 hM (fun _ _ => rfl))⟩
    have := (hM i hi).2.1
    unfold ht_PP
    split <;> omega
  | succ d ih =>
    intro j w hj hw
    have j6 : j < 6 := by omega
    obtain ⟨eR, eP, eQ⟩ := hD j j6
    have cj : (nI j).toNatClampNeg = j := nI_clamp (by omega)
    have vj : vp_in (nI j) 6 := vp_in_nI j6 (by omega)
    refine br_f (nI_ge (b := 6) j6 (by decide)) ⟨vj, ?_⟩
    rw [cj, eP]
    by_cases z : s.testBit j = true
    · refine br_f (fun z' => (ht_PRz hA j6).mp z' z) ⟨vj, vj, nm_e (nm_r (nI_1 _) (ih (j + 1) _ (by omega) (fun i hi => ?_)))⟩
      by_cases e : i = j
      · subst e
        rw [pk_us]
        unfold ht_PP
        rw [if_pos z]
      · rw [pk_un e]; exact hw i (by omega)
    · refine br_t ((ht_PRz hA j6).mpr z) ⟨vj, nm_e (nm_r (nI_1 _) (ih (j + 1) _ (by omega) (fun i hi => ?_)))⟩
      by_cases e : i = j
      · subst e
        rw [pk_us]
        unfold ht_PP
        rw [if_neg z]
        rfl
      · rw [pk_un e]; exact hw i (by omega)
theorem ht_xinterrupted {post : Int32 → SX → Prop} {s : Nat} {f : Int32} {a r p q o b w : Nat → Int32} {R P Q : Nat → Nat} (hA : ht_PR a s) (hD : ht_D r p q R P Q) (hB : ht_bd R P Q) (hM : ht_sm s R P Q) (K : ∀ g U w, g < 100000 → ht_I s R P Q U 112 g → post (nI g) (f, a, r, p, q, o, b, w)) : wpX_interrupted post (f, a, r, p, q, o, b, w) :=
  ⟨7, ht_x2 hA hD hB hM K 6 0 w rfl (fun i hi => absurd hi (Nat.not_lt_zero _))⟩
theorem ht_y12 {post : Int32 → Prop} {T : Nat} {fn fo : Int32} {a pt l st : Nat → Int32} {R P Q : Nat → Nat} (hT : T < 64) (hY : ht_YD pt R P Q) (hB : ht_bd R P Q) (h : post (nI (ht_Bd R P Q T))) : ∀ d j, j + d = 6 → wY_bound_12 post (nI T) fn fo a pt l st (d + 1) (nI (ht_mn T.testBit R j)) (nI (ht_S T.testBit P j)) (nI (ht_mn T.testBit Q j)) (nI j) := by
  intro d
  induction d with
  | zero =>
    intro j hj
    have e : j = 6 := by omega
    subst e
    refine br_t (by decide) ?_
    rw [nI_add, nI_add]
    exact h
  | succ d ih =>
    intro j hj
    have j6 : j < 6 := by omega
    obtain ⟨eR, eP, eQ⟩ := hY j j6
    obtain ⟨bR, bP, bQ⟩ := hB j j6
    have e0 : (3 : Int32) * nI j = nI (3 * j) := pk_mul 3 j
    have e1 : nI (3 * j) + 1 = nI (3 * j + 1) := nI_1 _
    have e2 : nI (3 * j) + 2 = nI (3 * j + 2) := nI_add _ 2
    have v0 : vp_in (nI (3 * j)) 18 := vp_in_nI (by omega) (by omega)
    have v1 : vp_in (nI (3 * j + 1)) 18 := vp_in_nI (by omega) (by omega)
    have v2 : vp_in (nI (3 * j + 2)) 18 := vp_in_nI (by omega) (by omega)
    have c0 : (nI (3 * j)).toNatClampNeg = 3 * j := nI_clamp (by omega)
    have c1 : (nI (3 * j + 1)).toNatClampNeg = 3 * j + 1 := nI_clamp (by omega)
    have c2 : (nI (3 * j + 2)).toNatClampNeg = 3 * j + 2 := nI_clamp (by omega)
    have mR := ht_mn_100 T.testBit R j
    have mQ := ht_mn_100 T.testBit Q j
    have ih' := ih (j + 1) (by omega)
    refine br_f (nI_ge (b := 6) j6 (by decide)) ?_
    by_cases z : T.testBit j = true
    · have eR' : ht_mn T.testBit R (j + 1) = min (ht_mn T.testBit R j) (R j) := if_pos z
      have eQ' : ht_mn T.testBit Q (j + 1) = min (ht_mn T.testBit Q j) (Q j) := if_pos z
      have eP' : ht_S T.testBit P (j + 1) = ht_S T.testBit P j + P j := by
        show _ + (if T.testBit j = true then P j else 0) = _
        rw [if_pos z]
      rw [eR', eQ', eP'] at ih'
      have body : ∀ m, m = min (ht_mn T.testBit R j) (R j) → wY_bound_55 post (wY_bound_12 post (nI T) fn fo a pt l st (d + 1)) (nI T) (nI (ht_S T.testBit P j)) (nI (ht_mn T.testBit Q j)) (nI j) (nI m) fn fo a pt l st := by
        intro m hm
        subst hm
        unfold wY_bound_55
        rw [e0, e1, e2, c1, c2, eP, eQ]
        refine ⟨v1, nm_r (nI_add _ _) ⟨v2, pk_le (ht_mn T.testBit Q j) (Q j) (fun y => nm_r (nI_1 _) ?_) (fun y => ⟨v2, nm_e (nm_r (nI_1 _) ?_)⟩)⟩⟩
        · rw [Nat.min_eq_left y] at ih'; exact ih'
        · rw [Nat.min_eq_right (show Q j ≤ ht_mn T.testBit Q j by omega)] at ih'; exact ih'
      refine br_t ((ht_bit hT j6).mpr z) ?_
      rw [e0, c0, eR]
      exact ⟨v0, pk_le (ht_mn T.testBit R j) (R j) (fun y => body _ (by omega)) (fun y => ⟨v0, body _ (by omega)⟩)⟩
    · have eR' : ht_mn T.testBit R (j + 1) = ht_mn T.testBit R j := if_neg z
      have eQ' : ht_mn T.testBit Q (j + 1) = ht_mn T.testBit Q j := if_neg z
      have eP' : ht_S T.testBit P (j + 1) = ht_S T.testBit P j := by
        show _ + (if T.testBit j = true then P j else 0) = _
        rw [if_neg z]; rfl
      rw [eR', eQ', eP'] at ih'
      exact br_f (fun z' => z ((ht_bit hT j6).mp z')) (nm_r (nI_1 _) ih')
theorem ht_ybound {post : Int32 → Prop} {T : Nat} {fn fo : Int32} {a pt l st : Nat → Int32} {R P Q : Nat → Nat} (hT : T < 64) (hY : ht_YD pt R P Q) (hB : ht_bd R P Q) (h : post (nI (ht_Bd R P Q T))) : wpY_bound post (fn, fo, a, pt, l, st) (nI T) :=
  ⟨7, ht_y12 hT hY hB h 6 0 rfl⟩
theorem ht_Bd_le {R P Q : Nat → Nat} (hB : ht_bd R P Q) (T : Nat) : ht_Bd R P Q T ≤ 1000 := by
  have a := ht_mn_100 T.testBit R 6
  have b := ht_mn_100 T.testBit Q 6
  have c := ht_S_bd (b := T.testBit) (f := P) (k := 12) 6 (fun j hj => (hB j hj).2.1)
  unfold ht_Bd
  omega
theorem ht_y4 {post : Int32 → Prop} {s : Nat} {fn fo : Int32} {a pt l st : Nat → Int32} {R P Q : Nat → Nat} (hs : s < 64) (hA : ht_PR a s) (hY : ht_YD pt R P Q) (hB : ht_bd R P Q) (K : ∀ m, (∀ T, 1 ≤ T → T < 64 → T &&& s = T → ht_Bd R P Q T ≤ m) → (m = 0 ∨ ∃ T, 1 ≤ T ∧ T < 64 ∧ T &&& s = T ∧ m = ht_Bd R P Q T) → post (nI m)) : ∀ d t m, t + d = 64 → m ≤ 1000 → (∀ T, 1 ≤ T → T < t → T &&& s = T → ht_Bd R P Q T ≤ m) → (m = 0 ∨ ∃ T, 1 ≤ T ∧ T < 64 ∧ T &&& s = T ∧ m = ht_Bd R P Q T) → 1 ≤ t → wY_interrupted_4 post fn fo a pt l st (d + 1) (nI m) (nI t) := by
  intro d
  induction d with
  | zero =>
    intro t m ht hm h1 h2 h3
    have e : t = 64 := by omega
    subst e
    exact br_t (by decide) (K m h1 h2)
  | succ d ih =>
    intro t m ht hm h1 h2 h3
    have t64 : t < 64 := by omega
    have hb := ht_Bd_le hB t
    refine br_f (nI_ge (b := 64) t64 (by decide)) (ht_ybound t64 hY hB (ht_yjobs hs hA ?_))
    by_cases z : t &&& s = t
    · refine br_t ((ht_subI t64 hs).mpr z) (pk_le (ht_Bd R P Q t) m (fun y => nm_r (nI_1 _) (ih (t + 1) m (by omega) hm (fun T a b c => ?_) h2 (by omega))) (fun y => nm_r (nI_1 _) (ih (t + 1) (ht_Bd R P Q t) (by omega) hb (fun T a b c => ?_) (Or.inr ⟨t, h3, t64, z, rfl⟩) (by omega))))
      · by_cases e : T = t
        · subst e; exact y
        · exact h1 T a (by omega) c
      · by_cases e : T = t
        · subst e; exact Nat.le_refl _
        · have := h1 T a (by omega) c; omega
    · refine br_f (fun z' => z ((ht_subI t64 hs).mp z')) (nm_r (nI_1 _) (ih (t + 1) m (by omega) hm (fun T a b c => ?_) h2 (by omega)))
      by_cases e : T = t
      · subst e; exact absurd c z
      · exact h1 T a (by omega) c
theorem ht_yinterrupted {post : Int32 → Prop} {s : Nat} {fn fo : Int32} {a pt l st : Nat → Int32} {R P Q : Nat → Nat} (hs : s < 64) (hA : ht_PR a s) (hY : ht_YD pt R P Q) (hB : ht_bd R P Q) (K : ∀ m, (∀ T, 1 ≤ T → T < 64 → T &&& s = T → ht_Bd R P Q T ≤ m) → (m = 0 ∨ ∃ T, 1 ≤ T ∧ T < 64 ∧ T &&& s = T ∧ m = ht_Bd R P Q T) → post (nI m)) : wpY_interrupted post (fn, fo, a, pt, l, st) :=
  ⟨64, ht_y4 hs hA hY hB K 63 1 0 rfl (by omega) (fun T a b => absurd b (by omega)) (Or.inl rfl) (by omega)⟩
end
section
/-! tailFor and releaseFor: halving steps against the walk from above -/
def ht_up (f : Nat → Nat) (j v : Nat) : Nat → Nat := fun i => if i = j then v else f i
theorem ht_uu (f : Nat → Int32) (k : Nat) (x y : Int32) : upd (upd f k x) k y = upd f k y := by
  funext i
  unfold upd
  by_cases e : i = k
  · rw [if_pos e, if_pos e]
  · rw [if_neg e, if_neg e, if_neg e]
theorem ht_u0 (f : Nat → Int32) (k : Nat) : upd f k (f k) = f := by
  funext i
  unfold upd
  by_cases e : i = k
  · rw [if_pos e, e]
  · rw [if_neg e]
theorem ht_ln_g (R P Q : Nat → Nat) : ∀ (l : List Nat) (t g : Nat), g ≤ ht_ln R P Q l t g := by
  intro l
  induction l with
  | nil => intro t g; exact Nat.le_refl _
  | cons x l ih =>
    intro t g
    have := ih (max t (R x) + P x) (max g (max t (R x) + P x + Q x))
    show g ≤ ht_ln R P Q l _ _
    omega
theorem ht_ln_mem (R P Q : Nat → Nat) (j : Nat) : ∀ (l : List Nat) (t g : Nat), j ∈ l → R j ≤ ht_ln R P Q l t g ∧ Q j ≤ ht_ln R P Q l t g := by
  intro l
  induction l with
  | nil => intro t g h; exact absurd h List.not_mem_nil
  | cons x l ih =>
    intro t g h
    show R j ≤ ht_ln R P Q l _ _ ∧ Q j ≤ ht_ln R P Q l _ _
    by_cases e : x = j
    · subst e
      have := ht_ln_g R P Q l (max t (R x) + P x) (max g (max t (R x) + P x + Q x))
      omega
    · exact ih _ _ ((List.mem_cons.mp h).resolve_left (fun z => e z.symm))
theorem ht_ln_mono {R P Q R' Q' : Nat → Nat} (hR : ∀ i, R i ≤ R' i) (hQ : ∀ i, Q i ≤ Q' i) : ∀ (l : List Nat) (t g t' g' : Nat), t ≤ t' → g ≤ g' → ht_ln R P Q l t g ≤ ht_ln R' P Q' l t' g' := by
  intro l
  induction l with
  | nil => intro t g t' g' _ h; exact h
  | cons x l ih =>
    intro t g t' g' h1 h2
    have a := hR x
    have b := hQ x
    exact ih _ _ _ _ (by omega) (by omega)
def ht_M (R P Q : Nat → Nat) (s : Nat) : Nat := ht_ms (fun _ => true) (ht_L R P Q s) 1000000 (ht_N s)
theorem ht_M_att {R P Q : Nat → Nat} {s : Nat} (hs : s < 64) (hB : ht_bd R P Q) : ∃ c, c < ht_N s ∧ ht_L R P Q s c = ht_M R P Q s ∧ ∀ i, i < ht_N s → ht_M R P Q s ≤ ht_L R P Q s i := by
  obtain ⟨_, b1, b2, b3⟩ := ht_ms_att (W := fun _ => true) (L := ht_L R P Q s) (g0 := 1000000) (N := ht_N s) (fun c hc => by have := ht_L_le hB hs hc; omega) ⟨0, (ht_nums hs).2.1, rfl⟩
  exact ⟨_, b1, b3, fun i hi => (ht_ms_spec (fun _ => true) (ht_L R P Q s) 1000000 (ht_N s)).2.1 i hi rfl⟩
theorem ht_M_le {R P Q : Nat → Nat} {s : Nat} (hs : s < 64) (hB : ht_bd R P Q) : ht_M R P Q s ≤ 2600 := by
  obtain ⟨c, hc, e, _⟩ := ht_M_att hs hB
  rw [← e]
  exact ht_L_le hB hs hc
theorem ht_M_mono {R P Q R' Q' : Nat → Nat} {s : Nat} (hs : s < 64) (hB : ht_bd R P Q) (hB' : ht_bd R' P Q') (hR : ∀ i, R i ≤ R' i) (hQ : ∀ i, Q i ≤ Q' i) : ht_M R P Q s ≤ ht_M R' P Q' s := by
  obtain ⟨c, hc, e, _⟩ := ht_M_att hs hB'
  obtain ⟨_, _, _, h⟩ := ht_M_att hs hB
  rw [← e]
  exact Nat.le_trans (h c hc) (ht_ln_mono hR hQ _ _ _ _ _ (Nat.le_refl _) (Nat.le_refl _))
theorem ht_M_mem {R P Q : Nat → Nat} {s j : Nat} (hs : s < 64) (hB : ht_bd R P Q) (hj : j < 6) (ht : s.testBit j = true) : R j ≤ ht_M R P Q s ∧ Q j ≤ ht_M R P Q s := by
  obtain ⟨c, hc, e, _⟩ := ht_M_att hs hB
  rw [← e]
  exact ht_ln_mem R P Q j _ 0 0 ((ht_good hs hc).2.2 j hj ht)
theorem ht_ltm {x : Int32} {a b : Nat} (h : a ≤ b) (hb : b < 2 ^ 31) (hx : x < nI a) : x < nI b := by
  have h1 : nI a ≤ nI b := nI_le h hb
  rw [Int32.lt_iff_toInt_lt] at hx ⊢
  rw [Int32.le_iff_toInt_le] at h1
  omega
def ht_gI (G : Nat) : Int32 := if G = 0 then -1 else nI (G - 1)
def ht_st : Nat → Nat
  | 0 => 0
  | i + 1 => 2 ^ i
theorem ht_half : ∀ i, i < 8 → nI (2 ^ i) / 2 = nI (ht_st i) := by decide +kernel
theorem ht_gI_add {G x : Nat} (hx : 0 < x) : ht_gI G + nI x = nI (G + x - 1) := by
  unfold ht_gI
  by_cases e : G = 0
  · rw [if_pos e, e]
    obtain ⟨y, rfl⟩ : ∃ y, x = y + 1 := ⟨x - 1, by omega⟩
    rw [Int32.add_comm, pk_m1]
    exact congrArg nI (by omega)
  · rw [if_neg e, nI_add]
    exact congrArg nI (by omega)
theorem ht_gI_pos {G : Nat} (h : 0 < G) : ht_gI G = nI (G - 1) := if_neg (by omega)
theorem ht_pw : ∀ i, i < 8 → 0 < 2 ^ i ∧ 2 ^ i ≤ 128 := by decide
theorem ht_xg_tail {post : Int32 → SX → Prop} {s j : Nat} {lim : Int32} {a r p q w : Nat → Int32} {R P Q : Nat → Nat} {ok : Nat → Prop} (hs : s < 64) (hA : ht_PR a s) (hj : j < 6)
    (hD : ∀ v, v ≤ 200 → ht_D r p (upd q j (nI v)) R P (ht_up Q j v)) (hB : ∀ v, v ≤ 200 → ht_bd R P (ht_up Q j v))
    (hok : ∀ v, v ≤ 200 → (ok v ↔ ¬ lim < nI (ht_M R P (ht_up Q j v) s))) (hdn : ∀ u v, u ≤ v → v ≤ 200 → ok v → ok u)
    (K : ∀ G o b, (∀ u, u < G → u ≤ 200 ∧ ok u) → (∀ u, G ≤ u → ¬ (u ≤ 200 ∧ ok u)) → post (ht_gI G) (nI (ht_cn s), a, r, p, q, o, b, w)) :
    ∀ (i G : Nat) (z : Int32) (o b : Nat → Int32), i ≤ 8 → (∀ u, u < G → u ≤ 200 ∧ ok u) → (∀ u, G + 2 ^ i - 1 ≤ u → ¬ (u ≤ 200 ∧ ok u)) → wX_greatestFitting__tail_13 post (nI j) lim (q j) (i + 1) (ht_gI G) (nI (ht_st i)) (nI (ht_cn s)) a r p (upd q j z) o b w := by
  have cj : (nI j).toNatClampNeg = j := nI_clamp (by omega)
  have vj : vp_in (nI j) 6 := vp_in_nI hj (by omega)
  intro i
  induction i with
  | zero =>
    intro G z o b hi h1 h2
    refine br_t (by decide) ⟨vj, nm_r (e' := q) ?_ (K G o b h1 (fun u hu => h2 u (by omega)))⟩
    rw [cj, ht_uu, ht_u0]
  | succ i ih =>
    intro G z o b hi h1 h2
    obtain ⟨p1, p2⟩ := ht_pw i (by omega)
    have hG : G ≤ 201 := by
      rcases Nat.eq_zero_or_pos G with e | e
      · omega
      · have := (h1 (G - 1) (by omega)).1; omega
    have e2 : 2 ^ (i + 1) = 2 ^ i + 2 ^ i := by rw [Nat.pow_succ]; omega
    have hst : ht_st (i + 1) = 2 ^ i := rfl
    have hd : nI (2 ^ i) / 2 = nI (ht_st i) := ht_half i (by omega)
    rw [hst]
    refine br_f (nI_nle p1 (by omega)) (nm_r (ht_gI_add p1) (pk_lt 200 (G + 2 ^ i - 1) (fun y => ⟨by decide, nm_r hd (ih G z o b (by omega) h1 (fun u hu h => ?_))⟩) (fun y => ⟨vj, nm_r (e' := upd q j (nI (G + 2 ^ i - 1))) (by rw [cj, ht_uu]) ?_⟩)))
    · omega
    · refine ht_xsearch (wl := fun _ => true) hs hA (hD _ y) (hB _ y) (fun o b l ps _ _ _ h => ht_xw0 h) (fun o' b' _ => ?_)
      have hk := hok _ y
      refine br_c (fun x => ⟨by decide, nm_r hd (ih G _ o' b' (by omega) h1 (fun u hu h => ?_))⟩) (fun x => ⟨by decide, nm_r hd ?_⟩)
      · exact (hk.mp (hdn _ u hu h.1 h.2)) x
      · have hv := hk.mpr x
        have := ih (G + 2 ^ i) (nI (G + 2 ^ i - 1)) o' b' (by omega) (fun u hu => ?_) (fun u hu => h2 u (by omega))
        · rw [ht_gI_pos (by omega)] at this
          exact this
        · exact ⟨by omega, hdn u _ (by omega) y hv⟩
theorem ht_xG_tail {post : Int32 → SX → Prop} {s j : Nat} {lim : Int32} {a r p q o b w : Nat → Int32} {R P Q : Nat → Nat} {ok : Nat → Prop} (hs : s < 64) (hA : ht_PR a s) (hj : j < 6)
    (hD : ∀ v, v ≤ 200 → ht_D r p (upd q j (nI v)) R P (ht_up Q j v)) (hB : ∀ v, v ≤ 200 → ht_bd R P (ht_up Q j v))
    (hok : ∀ v, v ≤ 200 → (ok v ↔ ¬ lim < nI (ht_M R P (ht_up Q j v) s))) (hdn : ∀ u v, u ≤ v → v ≤ 200 → ok v → ok u)
    (K : ∀ G o b, (∀ u, u < G → u ≤ 200 ∧ ok u) → (∀ u, G ≤ u → ¬ (u ≤ 200 ∧ ok u)) → post (ht_gI G) (nI (ht_cn s), a, r, p, q, o, b, w)) : wpX_greatestFitting__tail post (nI (ht_cn s), a, r, p, q, o, b, w) (nI j) lim := by
  have cj : (nI j).toNatClampNeg = j := nI_clamp (by omega)
  have vj : vp_in (nI j) 6 := vp_in_nI hj (by omega)
  have := ht_xg_tail (w := w) hs hA hj hD hB hok hdn K 8 0 (q j) o b (by omega) (fun u hu => absurd hu (Nat.not_lt_zero _)) (fun u hu h => by
    have h9 : (2 : Nat) ^ 8 = 256 := rfl
    omega)
  rw [ht_u0] at this
  exact ⟨vj, nm_r (by rw [cj]) ⟨9, this⟩⟩
theorem ht_xg_release {post : Int32 → SX → Prop} {s j : Nat} {lim : Int32} {a r p q w : Nat → Int32} {R P Q : Nat → Nat} {ok : Nat → Prop} (hs : s < 64) (hA : ht_PR a s) (hj : j < 6)
    (hD : ∀ v, v ≤ 200 → ht_D (upd r j (nI v)) p q (ht_up R j v) P Q) (hB : ∀ v, v ≤ 200 → ht_bd (ht_up R j v) P Q)
    (hok : ∀ v, v ≤ 200 → (ok v ↔ ¬ lim < nI (ht_M (ht_up R j v) P Q s))) (hdn : ∀ u v, u ≤ v → v ≤ 200 → ok v → ok u)
    (K : ∀ G o b, (∀ u, u < G → u ≤ 200 ∧ ok u) → (∀ u, G ≤ u → ¬ (u ≤ 200 ∧ ok u)) → post (ht_gI G) (nI (ht_cn s), a, r, p, q, o, b, w)) :
    ∀ (i G : Nat) (z : Int32) (o b : Nat → Int32), i ≤ 8 → (∀ u, u < G → u ≤ 200 ∧ ok u) → (∀ u, G + 2 ^ i - 1 ≤ u → ¬ (u ≤ 200 ∧ ok u)) → wX_greatestFitting__release_13 post (nI j) lim (r j) (i + 1) (ht_gI G) (nI (ht_st i)) (nI (ht_cn s)) a (upd r j z) p q o b w := by
  have cj : (nI j).toNatClampNeg = j := nI_clamp (by omega)
  have vj : vp_in (nI j) 6 := vp_in_nI hj (by omega)
  intro i
  induction i with
  | zero =>
    intro G z o b hi h1 h2
    refine br_t (by decide) ⟨vj, nm_r (e' := r) ?_ (K G o b h1 (fun u hu => h2 u (by omega)))⟩
    rw [cj, ht_uu, ht_u0]
  | succ i ih =>
    intro G z o b hi h1 h2
    obtain ⟨p1, p2⟩ := ht_pw i (by omega)
    have hG : G ≤ 201 := by
      rcases Nat.eq_zero_or_pos G with e | e
      · omega
      · have := (h1 (G - 1) (by omega)).1; omega
    have e2 : 2 ^ (i + 1) = 2 ^ i + 2 ^ i := by rw [Nat.pow_succ]; omega
    have hst : ht_st (i + 1) = 2 ^ i := rfl
    have hd : nI (2 ^ i) / 2 = nI (ht_st i) := ht_half i (by omega)
    rw [hst]
    refine br_f (nI_nle p1 (by omega)) (nm_r (ht_gI_add p1) (pk_lt 200 (G + 2 ^ i - 1) (fun y => ⟨by decide, nm_r hd (ih G z o b (by omega) h1 (fun u hu h => ?_))⟩) (fun y => ⟨vj, nm_r (e' := upd r j (nI (G + 2 ^ i - 1))) (by rw [cj, ht_uu]) ?_⟩)))
    · omega
    · refine ht_xsearch (wl := fun _ => true) hs hA (hD _ y) (hB _ y) (fun o b l ps _ _ _ h => ht_xw0 h) (fun o' b' _ => ?_)
      have hk := hok _ y
      refine br_c (fun x => ⟨by decide, nm_r hd (ih G _ o' b' (by omega) h1 (fun u hu h => ?_))⟩) (fun x => ⟨by decide, nm_r hd ?_⟩)
      · exact (hk.mp (hdn _ u hu h.1 h.2)) x
      · have hv := hk.mpr x
        have := ih (G + 2 ^ i) (nI (G + 2 ^ i - 1)) o' b' (by omega) (fun u hu => ?_) (fun u hu => h2 u (by omega))
        · rw [ht_gI_pos (by omega)] at this
          exact this
        · exact ⟨by omega, hdn u _ (by omega) y hv⟩
theorem ht_xG_release {post : Int32 → SX → Prop} {s j : Nat} {lim : Int32} {a r p q o b w : Nat → Int32} {R P Q : Nat → Nat} {ok : Nat → Prop} (hs : s < 64) (hA : ht_PR a s) (hj : j < 6)
    (hD : ∀ v, v ≤ 200 → ht_D (upd r j (nI v)) p q (ht_up R j v) P Q) (hB : ∀ v, v ≤ 200 → ht_bd (ht_up R j v) P Q)
    (hok : ∀ v, v ≤ 200 → (ok v ↔ ¬ lim < nI (ht_M (ht_up R j v) P Q s))) (hdn : ∀ u v, u ≤ v → v ≤ 200 → ok v → ok u)
    (K : ∀ G o b, (∀ u, u < G → u ≤ 200 ∧ ok u) → (∀ u, G ≤ u → ¬ (u ≤ 200 ∧ ok u)) → post (ht_gI G) (nI (ht_cn s), a, r, p, q, o, b, w)) : wpX_greatestFitting__release post (nI (ht_cn s), a, r, p, q, o, b, w) (nI j) lim := by
  have cj : (nI j).toNatClampNeg = j := nI_clamp (by omega)
  have vj : vp_in (nI j) 6 := vp_in_nI hj (by omega)
  have := ht_xg_release (w := w) hs hA hj hD hB hok hdn K 8 0 (r j) o b (by omega) (fun u hu => absurd hu (Nat.not_lt_zero _)) (fun u hu h => by
    have h9 : (2 : Nat) ^ 8 = 256 := rfl
    omega)
  rw [ht_u0] at this
  exact ⟨vj, nm_r (by rw [cj]) ⟨9, this⟩⟩
theorem ht_y70 {post : Int32 → SY → Prop} {J : Int32 → Int32 → Int32 → Int32 → (Nat → Int32) → (Nat → Int32) → (Nat → Int32) → (Nat → Int32) → Prop} {x1 x2 x4 lim : Int32} {s v : Nat} {a pt : Nat → Int32} {R P Q : Nat → Nat} (hs : s < 64) (hA : ht_PR a s) (hY : ht_YD pt R P Q) (hB : ht_bd R P Q) (hv : v ≤ 200)
    (K1 : ∀ l st, ¬ lim < nI (ht_M R P Q s) → J (nI v) (nI v + (-1)) (nI (ht_cn s)) (nI (ht_N s)) a pt l st) (K2 : ∀ l st, lim < nI (ht_M R P Q s) → J (-1) (nI v + (-1)) (nI (ht_cn s)) (nI (ht_N s)) a pt l st) :
    ∀ (d c : Nat) (l st : Nat → Int32), c + d = ht_N s → (∀ i, i < c → lim < nI (ht_L R P Q s i)) → wY_greatest_70 post J x1 x2 lim x4 (nI v) (d + 2) (-1) (nI c) (nI (ht_cn s)) (nI (ht_N s)) a pt l st := by
  obtain ⟨-, hN0, hN7, hn⟩ := ht_nums hs
  obtain ⟨c0, hc0, ec0, hmin⟩ := ht_M_att hs hB
  intro d
  induction d with
  | zero =>
    intro c l st hc h
    refine br_t (nI_le (by omega) (by omega)) (nm_e (K2 l st ?_))
    rw [← ec0]
    exact h c0 (by omega)
  | succ d ih =>
    intro c l st hc h
    have hL := ht_L_le hB hs (show c < ht_N s by omega)
    refine br_f (nI_ge (by omega) (by omega)) (br_f (nI_ge (b := 720) (by omega) (by decide)) (br_f (by decide) (ht_yspell hs hA hY hB (by omega) ?_)))
    refine br_c (fun y => nm_r (nI_1 _) (ih (c + 1) _ _ (by omega) (fun i hi => ?_))) (fun y => nm_r (nI_1 _) ?_)
    · by_cases e : i = c
      · subst e; exact y
      · exact h i (by omega)
    · have hk : ¬ lim < nI (ht_M R P Q s) := fun z => y (ht_ltm (hmin c (by omega)) (by omega) z)
      exact br_c (fun _ => nm_e (K1 _ _ hk)) (fun _ => br_c (fun _ => nm_e (K1 _ _ hk)) (fun _ => br_t (nI_pos' (by omega)) (nm_e (K1 _ _ hk))))
def ht_sp (ok : Nat → Prop) (V : Nat) (x : Int32) : Prop := (x = -1 ∧ ∀ u, u ≤ V → ¬ ok u) ∨ (∃ v, v ≤ V ∧ x = nI v ∧ ok v ∧ ∀ u, v < u → u ≤ V → ¬ ok u)
theorem ht_y45 {post : Int32 → SY → Prop} {s j wh V : Nat} {lim : Int32} {a pt : Nat → Int32} {P : Nat → Nat} {Rv Qv : Nat → Nat → Nat} {ok : Nat → Prop} (hs : s < 64) (hA : ht_PR a s) (hj : j < 6) (hw : wh ≤ 2) (hV : V ≤ 200)
    (hY : ∀ v, v ≤ 200 → ht_YD (upd pt (3 * j + wh) (nI v)) (Rv v) P (Qv v)) (hB : ∀ v, v ≤ 200 → ht_bd (Rv v) P (Qv v))
    (hok : ∀ v, v ≤ 200 → (ok v ↔ ¬ lim < nI (ht_M (Rv v) P (Qv v) s)))
    (K : ∀ x l st, ht_sp ok V x → post x (nI (ht_cn s), nI (ht_N s), a, pt, l, st)) :
    ∀ (v : Nat) (z : Int32) (l st : Nat → Int32), v ≤ V → (∀ u, v < u → u ≤ V → ¬ ok u) → wY_greatest_45 post (nI j) (nI wh) lim (pt (3 * j + wh)) (v + 2) (-1) (nI v) (nI (ht_cn s)) (nI (ht_N s)) a (upd pt (3 * j + wh) z) l st := by
  have ee : (3 : Int32) * nI j + nI wh = nI (3 * j + wh) := by rw [show (3 : Int32) * nI j = nI (3 * j) from pk_mul 3 j, nI_add]
  have ce : (nI (3 * j + wh)).toNatClampNeg = 3 * j + wh := nI_clamp (by omega)
  have ve : vp_in (nI (3 * j + wh)) 18 := vp_in_nI (by omega) (by omega)
  have fin : ∀ (x : Int32) (z : Int32) (l st : Nat → Int32), ht_sp ok V x → wY_greatest_123 post (nI j) (nI wh) (pt (3 * j + wh)) x (nI (ht_cn s)) (nI (ht_N s)) a (upd pt (3 * j + wh) z) l st := by
    intro x z l st hx
    unfold wY_greatest_123
    rw [ee, ce]
    refine ⟨ve, nm_r (e' := pt) ?_ (K x l st hx)⟩
    rw [ht_uu, ht_u0]
  intro v
  induction v with
  | zero =>
    intro z l st hv h
    refine br_f (nI_pos (by omega)) (br_f (by decide) ?_)
    rw [ee, ce, ht_uu]
    refine ⟨ve, nm_e ⟨ht_N s + 2, ht_y70 hs hA (hY 0 (by omega)) (hB 0 (by omega)) (by omega) (fun l st hk => ?_) (fun l st hk => ?_) (ht_N s) 0 l st (by omega) (fun i hi => absurd hi (Nat.not_lt_zero _))⟩⟩
    · have sp : ht_sp ok V (nI 0) := Or.inr ⟨0, hv, rfl, (hok 0 (by omega)).mpr hk, h⟩
      exact br_c (fun _ => fin _ _ _ _ sp) (fun _ => br_t (nI_pos' (by omega)) (fin _ _ _ _ sp))
    · refine br_t (by decide) (fin _ _ _ _ (Or.inl ⟨rfl, fun u hu => ?_⟩))
      by_cases e : u = 0
      · subst e; exact fun z => ((hok 0 (by omega)).mp z) hk
      · exact h u (by omega) hu
  | succ v ih =>
    intro z l st hv h
    refine br_f (nI_pos (by omega)) (br_f (by decide) ?_)
    rw [ee, ce, ht_uu]
    refine ⟨ve, nm_e ⟨ht_N s + 2, ht_y70 hs hA (hY (v + 1) (by omega)) (hB (v + 1) (by omega)) (by omega) (fun l st hk => ?_) (fun l st hk => ?_) (ht_N s) 0 l st (by omega) (fun i hi => absurd hi (Nat.not_lt_zero _))⟩⟩
    · have sp : ht_sp ok V (nI (v + 1)) := Or.inr ⟨v + 1, hv, rfl, (hok _ (by omega)).mpr hk, h⟩
      exact br_c (fun _ => fin _ _ _ _ sp) (fun _ => br_t (nI_pos' (by omega)) (fin _ _ _ _ sp))
    · rw [pk_m1]
      refine ih _ _ _ (by omega) (fun u hu hu2 => ?_)
      by_cases e : u = v + 1
      · subst e; exact fun z => ((hok _ (by omega)).mp z) hk
      · exact h u (by omega) hu2
theorem ht_sp_G {ok : Nat → Prop} {V G L : Nat} {x : Int32} (hV : V = min L 200) (hL : ∀ u, u ≤ 200 → ok u → u ≤ L) (hx : ht_sp ok V x) (h1 : ∀ u, u < G → u ≤ 200 ∧ ok u) (h2 : ∀ u, G ≤ u → ¬ (u ≤ 200 ∧ ok u)) : x = ht_gI G := by
  rcases hx with ⟨e, h⟩ | ⟨v, hv, e, hk, h⟩
  · rcases Nat.eq_zero_or_pos G with z | z
    · rw [e, z]; rfl
    · exact absurd (h1 0 z).2 (h 0 (by omega))
  · have hG : G = v + 1 := by
      rcases Nat.lt_trichotomy G (v + 1) with z | z | z
      · exact absurd ⟨by omega, hk⟩ (h2 v (by omega))
      · exact z
      · have a := h1 (v + 1) z
        have b := hL (v + 1) a.1 a.2
        exact absurd a.2 (h (v + 1) (by omega) (by omega))
    rw [e, hG]
    rfl
end
section
/-! the relation and what the small methods need -/
def i_Rel (k : Nat) (u : SX) (v : SY) : Prop := ∃ (s : Nat) (a : Nat → Int32) (R P Q : Nat → Nat) (r p q o b w : Nat → Int32) (fn fo : Int32) (pt l st : Nat → Int32), s < 64 ∧ u = (nI (ht_cn s), a, r, p, q, o, b, w) ∧ v = (fn, fo, a, pt, l, st) ∧ ht_PR a s ∧ ht_D r p q R P Q ∧ ht_YD pt R P Q ∧ ht_sm s R P Q
theorem ht_mk {k s : Nat} {a : Nat → Int32} {R P Q : Nat → Nat} {r p q o b w : Nat → Int32} {fn fo : Int32} {pt l st : Nat → Int32} (hs : s < 64) (hA : ht_PR a s) (hD : ht_D r p q R P Q) (hY : ht_YD pt R P Q) (hM : ht_sm s R P Q) : i_Rel k (nI (ht_cn s), a, r, p, q, o, b, w) (fn, fo, a, pt, l, st) :=
  ⟨s, a, R, P, Q, r, p, q, o, b, w, fn, fo, pt, l, st, hs, rfl, rfl, hA, hD, hY, hM⟩
theorem ht_smb {s : Nat} {R P Q : Nat → Nat} (h : ht_sm s R P Q) : ht_bd R P Q := fun j hj => by
  have := h j hj
  omega
theorem i_up {k : Nat} {u : SX} {v : SY} (h : i_Rel k u v) : i_Rel (k + 5) u v := h
theorem i_vc0 : wpX_init (fun u => wpY_init (fun v => i_Rel 0 u v)) :=
  ⟨0, fun _ => 0, fun _ => 0, fun _ => 0, fun _ => 0, fun _ => 0, fun _ => 0, fun _ => 0, fun _ => 0, fun _ => 0, fun _ => 0, 0, 0, fun _ => 0, fun _ => 0, fun _ => 0, by omega, rfl, rfl, fun j _ => by rw [Nat.zero_testBit]; rfl, fun j _ => ⟨rfl, rfl, rfl⟩, fun j _ => ⟨rfl, rfl, rfl⟩, fun j _ => ⟨Nat.zero_le _, Nat.zero_le _, Nat.zero_le _, fun h => by rw [Nat.zero_testBit] at h; exact absurd h (by decide)⟩⟩
def ht_gd (x y z : Int32) : Prop := ¬ x < 0 ∧ ¬ 40 < x ∧ ¬ y < 1 ∧ ¬ 12 < y ∧ ¬ z < 0 ∧ ¬ 40 < z
theorem ht_gdN {x y z : Int32} (h : ht_gd x y z) : ∃ r p q : Nat, r ≤ 40 ∧ 1 ≤ p ∧ p ≤ 12 ∧ q ≤ 40 ∧ x = nI r ∧ y = nI p ∧ z = nI q := by
  obtain ⟨h1, h2, h3, h4, h5, h6⟩ := h
  obtain ⟨r, hr, rfl⟩ := nI_of h1
  have h3' : ¬ y < 0 := fun e => h3 (by
    rw [Int32.lt_iff_toInt_lt] at e ⊢
    have a : (0 : Int32).toInt = 0 := by decide
    have b : (1 : Int32).toInt = 1 := by decide
    omega)
  obtain ⟨p, hp, rfl⟩ := nI_of h3'
  obtain ⟨q, hq, rfl⟩ := nI_of h5
  have k2 : ¬ nI 40 < nI r := h2
  have k3 : ¬ nI p < nI 1 := h3
  have k4 : ¬ nI 12 < nI p := h4
  have k6 : ¬ nI 40 < nI q := h6
  rw [nI_ltI (by omega) hr] at k2
  rw [nI_ltI hp (by omega)] at k3
  rw [nI_ltI (by omega) hp] at k4
  rw [nI_ltI (by omega) hq] at k6
  exact ⟨r, p, q, by omega, by omega, by omega, by omega, rfl, rfl, rfl⟩
theorem ht_xir {post : Int32 → Prop} {u : SX} {x y z : Int32} (h1 : ht_gd x y z → post 1) (h0 : ¬ ht_gd x y z → post 0) : wpX_inRange post u x y z := by
  obtain ⟨f, a, r, p, q, o, b, w⟩ := u
  exact br_c (fun c => h0 (fun g => g.1 c)) (fun c1 => br_c (fun c => h0 (fun g => g.2.1 c)) (fun c2 => br_c (fun c => h0 (fun g => g.2.2.1 c)) (fun c3 => br_c (fun c => h0 (fun g => g.2.2.2.1 c)) (fun c4 => br_c (fun c => h0 (fun g => g.2.2.2.2.1 c)) (fun c5 => br_c (fun c => h0 (fun g => g.2.2.2.2.2 c)) (fun c6 => h1 ⟨c1, c2, c3, c4, c5, c6⟩))))))
theorem ht_yir {post : Int32 → Prop} {u : SY} {x y z : Int32} (h1 : ht_gd x y z → post 1) (h0 : ¬ ht_gd x y z → post 0) : wpY_good post u x y z := by
  obtain ⟨fn, fo, a, pt, l, st⟩ := u
  exact br_c (fun c => h0 (fun g => g.1 c)) (fun c1 => br_c (fun c => h0 (fun g => g.2.1 c)) (fun c2 => br_c (fun c => h0 (fun g => g.2.2.1 c)) (fun c3 => br_c (fun c => h0 (fun g => g.2.2.2.1 c)) (fun c4 => br_c (fun c => h0 (fun g => g.2.2.2.2.1 c)) (fun c5 => br_c (fun c => h0 (fun g => g.2.2.2.2.2 c)) (fun c6 => h1 ⟨c1, c2, c3, c4, c5, c6⟩))))))
def ht_E (s : Nat) (x : Int32) : Prop := ∃ j, j < 6 ∧ x = nI j ∧ s.testBit j = true
theorem ht_xis1 {post : Int32 → Prop} {s j : Nat} {f : Int32} {a r p q o b w : Nat → Int32} (hA : ht_PR a s) (hj : j < 6) (ht : s.testBit j = true) (h : post 1) : wpX_isJob post (f, a, r, p, q, o, b, w) (nI j) :=
  br_f (nI_pos (by omega)) (br_f (nI_ge (b := 6) hj (by decide)) ⟨vp_in_nI hj (by omega), br_f (fun z => by rw [nI_clamp (by omega)] at z; exact (ht_PRz hA hj).mp z ht) h⟩)
theorem ht_yis1 {post : Int32 → Prop} {s j : Nat} {fn fo : Int32} {a pt l st : Nat → Int32} (hA : ht_PR a s) (hj : j < 6) (ht : s.testBit j = true) (h : post 1) : wpY_is post (fn, fo, a, pt, l, st) (nI j) :=
  br_f (nI_pos (by omega)) (br_f (nI_ge (b := 6) hj (by decide)) ⟨vp_in_nI hj (by omega), br_f (fun z => by rw [nI_clamp (by omega)] at z; exact (ht_PRz hA hj).mp z ht) h⟩)
theorem ht_xis0 {post : Int32 → Prop} {s : Nat} {x f : Int32} {a r p q o b w : Nat → Int32} (hA : ht_PR a s) (hE : ¬ ht_E s x) (h : post 0) : wpX_isJob post (f, a, r, p, q, o, b, w) x := by
  refine br_c (fun _ => h) (fun c1 => br_c (fun _ => h) (fun c2 => ?_))
  rcases pk_ix x (n := 6) (by omega) with e | e | ⟨j, hj, rfl⟩
  · exact absurd e c1
  · exact absurd e c2
  · refine ⟨vp_in_nI hj (by omega), br_t ?_ h⟩
    rw [nI_clamp (by omega)]
    exact (ht_PRz hA hj).mpr (fun z => hE ⟨j, hj, rfl, z⟩)
theorem ht_yis0 {post : Int32 → Prop} {s : Nat} {x fn fo : Int32} {a pt l st : Nat → Int32} (hA : ht_PR a s) (hE : ¬ ht_E s x) (h : post 0) : wpY_is post (fn, fo, a, pt, l, st) x := by
  refine br_c (fun _ => h) (fun c1 => br_c (fun _ => h) (fun c2 => ?_))
  rcases pk_ix x (n := 6) (by omega) with e | e | ⟨j, hj, rfl⟩
  · exact absurd e c1
  · exact absurd e c2
  · refine ⟨vp_in_nI hj (by omega), br_t ?_ h⟩
    rw [nI_clamp (by omega)]
    exact (ht_PRz hA hj).mpr (fun z => hE ⟨j, hj, rfl, z⟩)
theorem ht_upE (f : Nat → Nat) (j v : Nat) : ht_up f j v j = v := if_pos rfl
theorem ht_upN {f : Nat → Nat} {j v i : Nat} (h : i ≠ j) : ht_up f j v i = f i := if_neg h
theorem ht_D_up {r p q : Nat → Int32} {R P Q : Nat → Nat} {j x y z : Nat} (h : ht_D r p q R P Q) : ht_D (upd r j (nI x)) (upd p j (nI y)) (upd q j (nI z)) (ht_up R j x) (ht_up P j y) (ht_up Q j z) := by
  intro i hi
  by_cases e : i = j
  · subst e; rw [pk_us, pk_us, pk_us, ht_upE, ht_upE, ht_upE]; exact ⟨rfl, rfl, rfl⟩
  · rw [pk_un e, pk_un e, pk_un e, ht_upN e, ht_upN e, ht_upN e]; exact h i hi
theorem ht_D_t {r p q : Nat → Int32} {R P Q : Nat → Nat} {j z : Nat} (h : ht_D r p q R P Q) : ht_D r p (upd q j (nI z)) R P (ht_up Q j z) := by
  intro i hi
  obtain ⟨a, b, c⟩ := h i hi
  by_cases e : i = j
  · subst e; rw [pk_us, ht_upE]; exact ⟨a, b, rfl⟩
  · rw [pk_un e, ht_upN e]; exact ⟨a, b, c⟩
theorem ht_D_r {r p q : Nat → Int32} {R P Q : Nat → Nat} {j z : Nat} (h : ht_D r p q R P Q) : ht_D (upd r j (nI z)) p q (ht_up R j z) P Q := by
  intro i hi
  obtain ⟨a, b, c⟩ := h i hi
  by_cases e : i = j
  · subst e; rw [pk_us, ht_upE]; exact ⟨rfl, b, c⟩
  · rw [pk_un e, ht_upN e]; exact ⟨a, b, c⟩
theorem ht_YD_t {pt : Nat → Int32} {R P Q : Nat → Nat} {j z : Nat} (h : ht_YD pt R P Q) : ht_YD (upd pt (3 * j + 2) (nI z)) R P (ht_up Q j z) := by
  intro i hi
  obtain ⟨a, b, c⟩ := h i hi
  rw [pk_un (show 3 * i ≠ 3 * j + 2 by omega), pk_un (show 3 * i + 1 ≠ 3 * j + 2 by omega)]
  by_cases e : i = j
  · subst e; rw [pk_us, ht_upE]; exact ⟨a, b, rfl⟩
  · rw [pk_un (by omega), ht_upN e]; exact ⟨a, b, c⟩
theorem ht_YD_p {pt : Nat → Int32} {R P Q : Nat → Nat} {j z : Nat} (h : ht_YD pt R P Q) : ht_YD (upd pt (3 * j + 1) (nI z)) R (ht_up P j z) Q := by
  intro i hi
  obtain ⟨a, b, c⟩ := h i hi
  rw [pk_un (show 3 * i ≠ 3 * j + 1 by omega), pk_un (show 3 * i + 2 ≠ 3 * j + 1 by omega)]
  by_cases e : i = j
  · subst e; rw [pk_us, ht_upE]; exact ⟨a, rfl, c⟩
  · rw [pk_un (by omega), ht_upN e]; exact ⟨a, b, c⟩
theorem ht_YD_r {pt : Nat → Int32} {R P Q : Nat → Nat} {j z : Nat} (h : ht_YD pt R P Q) : ht_YD (upd pt (3 * j) (nI z)) (ht_up R j z) P Q := by
  intro i hi
  obtain ⟨a, b, c⟩ := h i hi
  rw [pk_un (show 3 * i + 1 ≠ 3 * j by omega), pk_un (show 3 * i + 2 ≠ 3 * j by omega)]
  by_cases e : i = j
  · subst e; rw [pk_us, ht_upE]; exact ⟨rfl, b, c⟩
  · rw [pk_un (by omega), ht_upN e]; exact ⟨a, b, c⟩
theorem ht_xwrite {post : SX → Prop} {j : Nat} {f x y z : Int32} {a r p q o b w : Nat → Int32} (hj : j < 6) (h : post (f, a, upd r j x, upd p j y, upd q j z, o, b, w)) : wpX_write post (f, a, r, p, q, o, b, w) (nI j) x y z := by
  have cj : (nI j).toNatClampNeg = j := nI_clamp (by omega)
  have vj : vp_in (nI j) 6 := vp_in_nI hj (by omega)
  unfold wpX_write
  dsimp only
  rw [cj]
  exact ⟨vj, nm_e ⟨vj, nm_e ⟨vj, nm_e h⟩⟩⟩
theorem ht_yhold {post : SY → Prop} {j : Nat} {fn fo x y z : Int32} {a pt l st : Nat → Int32} (hj : j < 6) (h : post (fn, fo, a, upd (upd (upd pt (3 * j) x) (3 * j + 1) y) (3 * j + 2) z, l, st)) : wpY_hold post (fn, fo, a, pt, l, st) (nI j) x y z := by
  have e0 : (3 : Int32) * nI j = nI (3 * j) := pk_mul 3 j
  have e1 : nI (3 * j) + 1 = nI (3 * j + 1) := nI_1 _
  have e2 : nI (3 * j) + 2 = nI (3 * j + 2) := nI_add _ 2
  have v0 : vp_in (nI (3 * j)) 18 := vp_in_nI (by omega) (by omega)
  have v1 : vp_in (nI (3 * j + 1)) 18 := vp_in_nI (by omega) (by omega)
  have v2 : vp_in (nI (3 * j + 2)) 18 := vp_in_nI (by omega) (by omega)
  have c0 : (nI (3 * j)).toNatClampNeg = 3 * j := nI_clamp (by omega)
  have c1 : (nI (3 * j + 1)).toNatClampNeg = 3 * j + 1 := nI_clamp (by omega)
  have c2 : (nI (3 * j + 2)).toNatClampNeg = 3 * j + 2 := nI_clamp (by omega)
  unfold wpY_hold
  dsimp only
  rw [e0, e1, e2, c0, c1, c2]
  exact ⟨v0, nm_e ⟨v1, nm_e ⟨v2, nm_e h⟩⟩⟩
theorem ht_b1 : vp_nar .boolean 1 = 1 := rfl
theorem ht_b0 : vp_nar .boolean 0 = 0 := rfl
theorem ht_xaddL {post : Int32 → SX → Prop} {s : Nat} {f x y z : Int32} {a r p q o b w : Nat → Int32} (hA : ht_PR a s) (K0 : (∀ i, i < 6 → s.testBit i = true) → post (-2) (f, a, r, p, q, o, b, w)) (K1 : ∀ j, j < 6 → ¬ s.testBit j = true → (∀ i, i < j → s.testBit i = true) → post (nI j) (f + 1, upd a j 1, upd r j x, upd p j y, upd q j z, o, b, w)) : ∀ d j, j + d = 6 → (∀ i, i < j → s.testBit i = true) → wX_add_15 post x y z f a r p q o b w (d + 1) (nI j) := by
  intro d
  induction d with
  | zero =>
    intro j hj h
    have e : j = 6 := by omega
    subst e
    exact br_t (by decide) (K0 h)
  | succ d ih =>
    intro j hj h
    have j6 : j < 6 := by omega
    have cj : (nI j).toNatClampNeg = j := nI_clamp (by omega)
    have vj : vp_in (nI j) 6 := vp_in_nI j6 (by omega)
    refine br_f (nI_ge (b := 6) j6 (by decide)) ⟨vj, ?_⟩
    rw [cj]
    by_cases t : s.testBit j = true
    · refine br_f (fun z' => (ht_PRz hA j6).mp z' t) (nm_r (nI_1 _) (ih (j + 1) (by omega) (fun i hi => ?_)))
      by_cases e : i = j
      · subst e; exact t
      · exact h i (by omega)
    · exact br_t ((ht_PRz hA j6).mpr t) ⟨vj, nm_e (nm_e (ht_xwrite j6 (K1 j j6 t h)))⟩
theorem ht_yaddL {post : Int32 → SY → Prop} {s : Nat} {fn fo x y z : Int32} {a pt l st : Nat → Int32} (hA : ht_PR a s) (K0 : (∀ i, i < 6 → s.testBit i = true) → post (-2) (fn, fo, a, pt, l, st)) (K1 : ∀ j, j < 6 → ¬ s.testBit j = true → (∀ i, i < j → s.testBit i = true) → post (nI j) (fn, fo, upd a j 1, upd (upd (upd pt (3 * j) x) (3 * j + 1) y) (3 * j + 2) z, l, st)) : ∀ d j, j + d = 6 → (∀ i, i < j → s.testBit i = true) → wY_add_15 post x y z fn fo a pt l st (d + 1) (nI j) := by
  intro d
  induction d with
  | zero =>
    intro j hj h
    have e : j = 6 := by omega
    subst e
    exact br_t (by decide) (K0 h)
  | succ d ih =>
    intro j hj h
    have j6 : j < 6 := by omega
    have cj : (nI j).toNatClampNeg = j := nI_clamp (by omega)
    have vj : vp_in (nI j) 6 := vp_in_nI j6 (by omega)
    refine br_f (nI_ge (b := 6) j6 (by decide)) ⟨vj, ?_⟩
    rw [cj]
    by_cases t : s.testBit j = true
    · refine br_f (fun z' => (ht_PRz hA j6).mp z' t) (nm_r (nI_1 _) (ih (j + 1) (by omega) (fun i hi => ?_)))
      by_cases e : i = j
      · subst e; exact t
      · exact h i (by omega)
    · exact br_t ((ht_PRz hA j6).mpr t) ⟨vj, nm_e (ht_yhold j6 (K1 j j6 t h))⟩
end
section
theorem ht_dec (s : Nat) (x : Int32) : ht_E s x ∨ ¬ ht_E s x := Classical.em _
theorem i_vc_add {k : Nat} {u : SX} {v : SY} (I : i_Rel k u v) (hk : k + 5 ≤ 2560) (v1 : Int32) (v2 : Int32) (v3 : Int32) : wpX_add (fun r u' => wpY_add (fun r' v' => r' = r ∧ i_Rel (k + 5) u' v') v v1 v2 v3) u v1 v2 v3 := by
  obtain ⟨s, a, R, P, Q, r, p, q, o, b, w, fn, fo, pt, l, st, hs, rfl, rfl, hA, hD, hY, hM⟩ := I
  unfold wpX_add
  dsimp only
  refine ht_xir (fun g => br_f (by decide) ⟨7, ht_xaddL hA (fun h => ?_) (fun j hj hn hf => ?_) 6 0 rfl (fun i hi => absurd hi (Nat.not_lt_zero _))⟩) (fun g => br_t rfl ?_)
  · unfold wpY_add
    dsimp only
    refine ht_yir (fun _ => br_f (by decide) ⟨7, ht_yaddL hA (fun _ => ⟨rfl, ht_mk hs hA hD hY hM⟩) (fun j hj hn hf => absurd (h j hj) hn) 6 0 rfl (fun i hi => absurd hi (Nat.not_lt_zero _))⟩) (fun g' => absurd g g')
  · unfold wpY_add
    dsimp only
    refine ht_yir (fun _ => br_f (by decide) ⟨7, ht_yaddL hA (fun h => absurd (h j hj) hn) (fun j' hj' hn' hf' => ?_) 6 0 rfl (fun i hi => absurd hi (Nat.not_lt_zero _))⟩) (fun g' => absurd g g')
    have e : j' = j := by
      rcases Nat.lt_trichotomy j' j with z | z | z
      · exact absurd (hf j' z) hn'
      · exact z
      · exact absurd (hf' j z) hn
    subst e
    obtain ⟨x, y, z, hx, hy1, hy, hz, rfl, rfl, rfl⟩ := ht_gdN g
    obtain ⟨m1, m2, m3⟩ := ht_addM hs hj (Bool.not_eq_true _ ▸ hn)
    rw [nI_1, ← m2]
    refine ⟨rfl, ht_mk m1 (fun i hi => ?_) (ht_D_up hD) (ht_YD_t (ht_YD_p (ht_YD_r hY))) (fun i hi => ?_)⟩
    · rw [m3 i hi]
      by_cases e : i = j'
      · subst e; rw [pk_us, beq_self_eq_true]; rfl
      · rw [pk_un e, beq_false_of_ne e]; exact hA i hi
    · by_cases e : i = j'
      · subst e; rw [ht_upE, ht_upE, ht_upE]; exact ⟨hx, hy, hz, fun _ => hy1⟩
      · rw [ht_upN e, ht_upN e, ht_upN e, m3 i hi, beq_false_of_ne e]; exact hM i hi
  · unfold wpY_add
    dsimp only
    exact ht_yir (fun g' => absurd g' g) (fun _ => br_t rfl ⟨rfl, ht_mk hs hA hD hY hM⟩)
theorem i_vc_remove {k : Nat} {u : SX} {v : SY} (I : i_Rel k u v) (hk : k + 5 ≤ 2560) (v1 : Int32) : wpX_remove (fun r u' => wpY_remove (fun r' v' => r' = r ∧ i_Rel (k + 5) u' v') v v1) u v1 := by
  obtain ⟨s, a, R, P, Q, r, p, q, o, b, w, fn, fo, pt, l, st, hs, rfl, rfl, hA, hD, hY, hM⟩ := I
  unfold wpX_remove
  dsimp only
  rcases ht_dec s v1 with ⟨j, hj, rfl, ht⟩ | hE
  · have cj : (nI j).toNatClampNeg = j := nI_clamp (by omega)
    have vj : vp_in (nI j) 6 := vp_in_nI hj (by omega)
    obtain ⟨m1, m2, m3⟩ := ht_remM hs hj ht
    rw [cj]
    refine ht_xis1 hA hj ht (br_f (by decide) ⟨vj, nm_e (nm_r (e' := nI (ht_cn (s - 2 ^ j))) (by rw [← m2, nI_pred]) ?_)⟩)
    unfold wpY_remove
    dsimp only
    rw [cj]
    refine ht_yis1 hA hj ht (br_f (by decide) ⟨vj, nm_e ⟨rfl, ht_mk m1 (fun i hi => ?_) hD hY (fun i hi => ?_)⟩⟩)
    · rw [m3 i hi]
      by_cases e : i = j
      · subst e; rw [pk_us, beq_self_eq_true]; rfl
      · rw [pk_un e, beq_false_of_ne e]; exact hA i hi
    · obtain ⟨a1, a2, a3, a4⟩ := hM i hi
      refine ⟨a1, a2, a3, fun h => a4 ?_⟩
      rw [m3 i hi, Bool.and_eq_true] at h
      exact h.2
  · refine ht_xis0 hA hE (br_t rfl ?_)
    unfold wpY_remove
    dsimp only
    exact ht_yis0 hA hE (br_t rfl ⟨rfl, ht_mk hs hA hD hY hM⟩)
theorem i_vc_change {k : Nat} {u : SX} {v : SY} (I : i_Rel k u v) (hk : k + 5 ≤ 2560) (v1 : Int32) (v2 : Int32) (v3 : Int32) (v4 : Int32) : wpX_change (fun r u' => wpY_change (fun r' v' => r' = r ∧ i_Rel (k + 5) u' v') v v1 v2 v3 v4) u v1 v2 v3 v4 := by
  obtain ⟨s, a, R, P, Q, r, p, q, o, b, w, fn, fo, pt, l, st, hs, rfl, rfl, hA, hD, hY, hM⟩ := I
  unfold wpX_change
  dsimp only
  rcases ht_dec s v1 with ⟨j, hj, rfl, ht⟩ | hE
  · refine ht_xis1 hA hj ht (br_f (by decide) (ht_xir (fun g => br_f (by decide) (ht_xwrite hj ?_)) (fun g => br_t rfl ?_)))
    · dsimp only
      unfold wpY_change
      dsimp only
      refine ht_yis1 hA hj ht (br_f (by decide) (ht_yir (fun _ => br_f (by decide) (ht_yhold hj ?_)) (fun g' => absurd g g')))
      obtain ⟨x, y, z, hx, hy1, hy, hz, rfl, rfl, rfl⟩ := ht_gdN g
      refine ⟨rfl, ht_mk hs hA (ht_D_up hD) (ht_YD_t (ht_YD_p (ht_YD_r hY))) (fun i hi => ?_)⟩
      by_cases e : i = j
      · subst e; rw [ht_upE, ht_upE, ht_upE]; exact ⟨hx, hy, hz, fun _ => hy1⟩
      · rw [ht_upN e, ht_upN e, ht_upN e]; exact hM i hi
    · unfold wpY_change
      dsimp only
      exact ht_yis1 hA hj ht (br_f (by decide) (ht_yir (fun g' => absurd g' g) (fun _ => br_t rfl ⟨rfl, ht_mk hs hA hD hY hM⟩)))
  · refine ht_xis0 hA hE (br_t rfl ?_)
    unfold wpY_change
    dsimp only
    exact ht_yis0 hA hE (br_t rfl ⟨rfl, ht_mk hs hA hD hY hM⟩)
theorem i_vc_jobs {k : Nat} {u : SX} {v : SY} (I : i_Rel k u v) (hk : k + 5 ≤ 2560) : wpX_jobs (fun r => wpY_jobs (fun r' => r' = r ∧ i_Rel (k + 5) u v) v) u := by
  obtain ⟨s, a, R, P, Q, r, p, q, o, b, w, fn, fo, pt, l, st, hs, rfl, rfl, hA, hD, hY, hM⟩ := I
  exact ht_xjobs hs hA (ht_yjobs hs hA ⟨rfl, ht_mk hs hA hD hY hM⟩)
theorem i_vc_part {k : Nat} {u : SX} {v : SY} (I : i_Rel k u v) (hk : k + 5 ≤ 2560) (v1 : Int32) (v2 : Int32) : wpX_part (fun r => wpY_part (fun r' => r' = r ∧ i_Rel (k + 5) u v) v v1 v2) u v1 v2 := by
  obtain ⟨s, a, R, P, Q, r, p, q, o, b, w, fn, fo, pt, l, st, hs, rfl, rfl, hA, hD, hY, hM⟩ := I
  have J : i_Rel (k + 5) (nI (ht_cn s), a, r, p, q, o, b, w) (fn, fo, a, pt, l, st) := ht_mk hs hA hD hY hM
  unfold wpX_part
  dsimp only
  rcases ht_dec s v1 with ⟨j, hj, rfl, ht⟩ | hE
  · obtain ⟨d1, d2, d3⟩ := hD j hj
    obtain ⟨y1, y2, y3⟩ := hY j hj
    have cj : (nI j).toNatClampNeg = j := nI_clamp (by omega)
    have vj : vp_in (nI j) 6 := vp_in_nI hj (by omega)
    have e0 : (3 : Int32) * nI j = nI (3 * j) := pk_mul 3 j
    rw [cj, d1, d2, d3]
    refine ht_xis1 hA hj ht (br_f (by decide) (br_c (fun c => ?_) (fun c1 => br_c (fun c => ?_) (fun c2 => ?_))))
    · unfold wpY_part
      dsimp only
      exact ht_yis1 hA hj ht (br_f (by decide) (br_t c ⟨rfl, J⟩))
    · unfold wpY_part
      dsimp only
      exact ht_yis1 hA hj ht (br_f (by decide) (br_f c1 (br_t c ⟨rfl, J⟩)))
    · obtain ⟨m, hm, rfl⟩ := nI_of c1
      have c2' : ¬ nI 2 < nI m := c2
      rw [nI_ltI (by omega) hm] at c2'
      have em : (3 : Int32) * nI j + nI m = nI (3 * j + m) := by rw [e0, nI_add]
      have cm : (nI (3 * j + m)).toNatClampNeg = 3 * j + m := nI_clamp (by omega)
      have vm : vp_in (nI (3 * j + m)) 18 := vp_in_nI (by omega) (by omega)
      have Y : ∀ x : Nat, pt (3 * j + m) = nI x → wpY_part (fun r' => r' = nI x ∧ i_Rel (k + 5) (nI (ht_cn s), a, r, p, q, o, b, w) (fn, fo, a, pt, l, st)) (fn, fo, a, pt, l, st) (nI j) (nI m) := by
        intro x hx
        unfold wpY_part
        dsimp only
        rw [em, cm]
        exact ht_yis1 hA hj ht (br_f (by decide) (br_f c1 (br_f c2 ⟨vm, hx, J⟩)))
      rcases (show m = 0 ∨ m = 1 ∨ m = 2 by omega) with rfl | rfl | rfl
      · exact br_t rfl ⟨vj, Y _ y1⟩
      · exact br_f (by decide) (br_t rfl ⟨vj, Y _ y2⟩)
      · exact br_f (by decide) (br_f (by decide) (br_t rfl ⟨vj, Y _ y3⟩))
  · refine ht_xis0 hA hE (br_t rfl ?_)
    unfold wpY_part
    dsimp only
    exact ht_yis0 hA hE (br_t rfl ⟨rfl, J⟩)
theorem i_vc_least {k : Nat} {u : SX} {v : SY} (I : i_Rel k u v) (hk : k + 5 ≤ 2560) : wpX_least (fun r u' => wpY_least (fun r' v' => r' = r ∧ i_Rel (k + 5) u' v') v) u := by
  obtain ⟨s, a, R, P, Q, r, p, q, o, b, w, fn, fo, pt, l, st, hs, rfl, rfl, hA, hD, hY, hM⟩ := I
  have hB := ht_smb hM
  unfold wpX_least
  dsimp only
  refine ht_xsearch (wl := fun _ => true) hs hA hD hB (fun o b l ps _ _ _ h => ht_xw0 h) (fun o' b' _ => ?_)
  dsimp only
  unfold wpY_least
  dsimp only
  refine ht_yleastOf (fn := fn) (fo := fo) (W := fun _ => true) hs hA hY hB (Or.inl ⟨rfl, fun _ => rfl⟩) (fun l' st' => ⟨?_, ht_mk hs hA hD hY hM⟩)
  rw [ht_ms_eq (W := fun _ => true) (ht_all hB hs) ⟨0, (ht_nums hs).2.1, rfl⟩]
theorem ht_bst {s : Nat} {R P Q : Nat → Nat} (hs : s < 64) (hB : ht_bd R P Q) : ht_ms (fun _ => true) (ht_L R P Q s) 1000000 (ht_N s) < 1000000 ∧ ht_am (fun _ => true) (ht_L R P Q s) 1000000 (ht_N s) < ht_N s := by
  obtain ⟨b0, b1, _, _⟩ := ht_ms_att (W := fun _ => true) (L := ht_L R P Q s) (g0 := 1000000) (N := ht_N s) (fun c hc => by have := ht_L_le hB hs hc; omega) ⟨0, (ht_nums hs).2.1, rfl⟩
  exact ⟨b0, b1⟩
theorem i_vc_bestAt {k : Nat} {u : SX} {v : SY} (I : i_Rel k u v) (hk : k + 5 ≤ 2560) (v1 : Int32) : wpX_bestAt (fun r u' => wpY_bestAt (fun r' v' => r' = r ∧ i_Rel (k + 5) u' v') v v1) u v1 := by
  obtain ⟨s, a, R, P, Q, r, p, q, o, b, w, fn, fo, pt, l, st, hs, rfl, rfl, hA, hD, hY, hM⟩ := I
  have hB := ht_smb hM
  have hn := (ht_nums hs).2.2.2
  unfold wpX_bestAt
  dsimp only
  refine br_c (fun c => ?_) (fun c1 => br_c (fun c2 => ?_) (fun c2 => ?_))
  · unfold wpY_bestAt
    dsimp only
    exact ht_ybest (fn := fn) (fo := fo) hs hA hY hB (fun l' st' => br_t c ⟨rfl, ht_mk hs hA hD hY hM⟩)
  · obtain ⟨m, hm, rfl⟩ := nI_of c1
    have c2' := c2
    rw [nI_ltI hm (by omega)] at c2'
    have cm : (nI m).toNatClampNeg = m := nI_clamp hm
    have vm : vp_in (nI m) 6 := vp_in_nI (by omega) (by omega)
    have hb := ht_bst (R := R) (P := P) (Q := Q) hs hB
    rw [cm]
    refine ht_xsearch (wl := fun _ => true) hs hA hD hB (fun o b l ps _ _ _ h => ht_xw0 h) (fun o' b' h' => ?_)
    have hO : ht_OA b' (ht_or s (ht_am (fun _ => true) (ht_L R P Q s) 1000000 (ht_N s))) := h' hb.1
    refine ⟨vm, ?_⟩
    unfold wpY_bestAt
    dsimp only
    rw [cm]
    refine ht_ybest (fn := fn) (fo := fo) hs hA hY hB (fun l' st' => br_f c1 (br_t c2 ⟨vm, ?_, ht_mk hs hA hD hY hM⟩))
    have hl : m < (ht_or s (ht_am (fun _ => true) (ht_L R P Q s) 1000000 (ht_N s))).length := by rw [ht_or_len]; exact c2'
    exact (ht_yl_OA _ l' m hl).trans (hO m hl).symm
  · unfold wpY_bestAt
    dsimp only
    exact ht_ybest (fn := fn) (fo := fo) hs hA hY hB (fun l' st' => br_f c1 (br_f c2 ⟨rfl, ht_mk hs hA hD hY hM⟩))
theorem i_vc_begins {k : Nat} {u : SX} {v : SY} (I : i_Rel k u v) (hk : k + 5 ≤ 2560) (v1 : Int32) : wpX_begins (fun r u' => wpY_begins (fun r' v' => r' = r ∧ i_Rel (k + 5) u' v') v v1) u v1 := by
  obtain ⟨s, a, R, P, Q, r, p, q, o, b, w, fn, fo, pt, l, st, hs, rfl, rfl, hA, hD, hY, hM⟩ := I
  have hB := ht_smb hM
  have hn := (ht_nums hs).2.2.2
  unfold wpX_begins
  dsimp only
  rcases ht_dec s v1 with ⟨j, hj, rfl, ht⟩ | hE
  · have hb := ht_bst (R := R) (P := P) (Q := Q) hs hB
    have hg := ht_good hs hb.2
    have cj : (nI j).toNatClampNeg = j := nI_clamp (by omega)
    have vj : vp_in (nI j) 6 := vp_in_nI hj (by omega)
    refine ht_xis1 hA hj ht (br_f (by decide) (ht_xsearch (wl := fun _ => true) hs hA hD hB (fun o b l ps _ _ _ h => ht_xw0 h) (fun o' b' h' => ?_)))
    have hO : ht_OA b' (ht_or s (ht_am (fun _ => true) (ht_L R P Q s) 1000000 (ht_N s))) := h' hb.1
    have hlen := ht_or_len s (ht_am (fun _ => true) (ht_L R P Q s) 1000000 (ht_N s))
    refine ⟨ht_cn s + 1, ht_xbegL hD hB hn hj _ (ht_cn s + 1) 0 0 (by omega) (fun i hi => by rw [Nat.zero_add]; exact hO i hi) (ht_or_B6 hs hb.2) (by omega) (by omega) (hg.2.2 j hj ht) ?_⟩
    unfold wpY_begins
    dsimp only
    rw [cj]
    refine ht_ybest (fn := fn) (fo := fo) hs hA hY hB (fun l' st' => ht_yis1 hA hj ht (br_f (by decide) ⟨vj, ?_, ht_mk hs hA hD hY hM⟩))
    exact ht_ys_bg R P _ st' 0 j hg.2.1 (hg.2.2 j hj ht)
  · refine ht_xis0 hA hE (br_t rfl ?_)
    unfold wpY_begins
    dsimp only
    exact ht_ybest (fn := fn) (fo := fo) hs hA hY hB (fun l' st' => ht_yis0 hA hE (br_t rfl ⟨rfl, ht_mk hs hA hD hY hM⟩))
theorem i_vc_leastWith {k : Nat} {u : SX} {v : SY} (I : i_Rel k u v) (hk : k + 5 ≤ 2560) (v1 : Int32) (v2 : Int32) : wpX_leastWith (fun r u' => wpY_leastWith (fun r' v' => r' = r ∧ i_Rel (k + 5) u' v') v v1 v2) u v1 v2 := by
  obtain ⟨s, a, R, P, Q, r, p, q, o, b, w, fn, fo, pt, l, st, hs, rfl, rfl, hA, hD, hY, hM⟩ := I
  have hB := ht_smb hM
  have hn := (ht_nums hs).2.2.2
  unfold wpX_leastWith
  dsimp only
  rcases ht_dec s v1 with ⟨i, hi, rfl, hti⟩ | hE
  · rcases ht_dec s v2 with ⟨j, hj, rfl, htj⟩ | hE
    · by_cases e : i = j
      · subst e
        refine ht_xis1 hA hi hti (br_f (by decide) (ht_xis1 hA hj htj (br_f (by decide) (br_t rfl ?_))))
        unfold wpY_leastWith
        dsimp only
        exact ht_yis1 hA hi hti (br_f (by decide) (ht_yis1 hA hj htj (br_f (by decide) (br_t rfl ⟨rfl, ht_mk hs hA hD hY hM⟩))))
      · have ne : ¬ nI i = nI j := fun z => e ((nI_eq (by omega) (by omega)).mp z)
        refine ht_xis1 hA hi hti (br_f (by decide) (ht_xis1 hA hj htj (br_f (by decide) (br_f ne (ht_xsearch (wl := fun l => ht_cb l i j) hs hA hD hB (fun o b l ps h1 h2 h3 h => ht_xwW hi hj hn h3 h1 h2 h) (fun o' b' _ => ?_))))))
        dsimp only
        unfold wpY_leastWith
        dsimp only
        refine ht_yis1 hA hi hti (br_f (by decide) (ht_yis1 hA hj htj (br_f (by decide) (br_f ne (ht_yleastOf (fn := fn) (fo := fo) (W := fun c => ht_cb (ht_or s c) i j) hs hA hY hB (Or.inr ⟨i, j, hi, hj, e, rfl, rfl, fun _ => rfl⟩) (fun l' st' => ⟨?_, ht_mk hs hA hD hY hM⟩))))))
        rw [ht_ms_eq (W := fun c => ht_cb (ht_or s c) i j) (ht_all hB hs) (ht_exW hs hi hj hti htj e)]
    · refine ht_xis1 hA hi hti (br_f (by decide) (ht_xis0 hA hE (br_t rfl ?_)))
      unfold wpY_leastWith
      dsimp only
      exact ht_yis1 hA hi hti (br_f (by decide) (ht_yis0 hA hE (br_t rfl ⟨rfl, ht_mk hs hA hD hY hM⟩)))
  · refine ht_xis0 hA hE (br_t rfl ?_)
    unfold wpY_leastWith
    dsimp only
    exact ht_yis0 hA hE (br_t rfl ⟨rfl, ht_mk hs hA hD hY hM⟩)
theorem i_vc_leastFirst {k : Nat} {u : SX} {v : SY} (I : i_Rel k u v) (hk : k + 5 ≤ 2560) (v1 : Int32) : wpX_leastFirst (fun r u' => wpY_leastFirst (fun r' v' => r' = r ∧ i_Rel (k + 5) u' v') v v1) u v1 := by
  obtain ⟨s, a, R, P, Q, r, p, q, o, b, w, fn, fo, pt, l, st, hs, rfl, rfl, hA, hD, hY, hM⟩ := I
  have hB := ht_smb hM
  have hn := (ht_nums hs).2.2.2
  unfold wpX_leastFirst
  dsimp only
  rcases ht_dec s v1 with ⟨j, hj, rfl, ht⟩ | hE
  · have hn0 : 0 < ht_cn s := by
      have := (ht_remM hs hj ht).2.1
      omega
    refine ht_xis1 hA hj ht (br_f (by decide) (ht_xsearch (wl := fun l => decide (ht_at l 0 = j)) hs hA hD hB (fun o b l ps h1 h2 h3 h => ht_xwF hj (by omega) h1 h2 ?_) (fun o' b' _ => ?_)))
    · simpa using h
    · dsimp only
      unfold wpY_leastFirst
      dsimp only
      refine ht_yis1 hA hj ht (br_f (by decide) (ht_ycount (fn := fn) (fo := fo) hA ⟨ht_N s + 1, ht_yfirstL hs hA hY hB hj hn0 (fun l' st' => ⟨?_, ht_mk hs hA hD hY hM⟩) (ht_N s) 0 l st (by omega)⟩))
      obtain ⟨c, hc, ec⟩ := ht_exF hs hj ht
      rw [ht_ms_eq (W := fun c => decide (ht_at (ht_or s c) 0 = j)) (ht_all hB hs) ⟨c, hc, decide_eq_true ec⟩]
  · refine ht_xis0 hA hE (br_t rfl ?_)
    unfold wpY_leastFirst
    dsimp only
    exact ht_yis0 hA hE (br_t rfl ⟨rfl, ht_mk hs hA hD hY hM⟩)
theorem i_vc_interrupted {k : Nat} {u : SX} {v : SY} (I : i_Rel k u v) (hk : k + 5 ≤ 2560) : wpX_interrupted (fun r u' => wpY_interrupted (fun r' => r' = r ∧ i_Rel (k + 5) u' v) v) u := by
  obtain ⟨s, a, R, P, Q, r, p, q, o, b, w, fn, fo, pt, l, st, hs, rfl, rfl, hA, hD, hY, hM⟩ := I
  have hB := ht_smb hM
  refine ht_xinterrupted hA hD hB hM (fun g U w' _ I => ht_yinterrupted hs hA hY hB (fun m h1 h2 => ⟨?_, ht_mk hs hA hD hY hM⟩))
  rw [ht_Iend I h1 h2]
end
section
theorem i_vc_tailFor {k : Nat} {u : SX} {v : SY} (I : i_Rel k u v) (hk : k + 5 ≤ 2560) (v1 : Int32) (v2 : Int32) : wpX_tailFor (fun r u' => wpY_tailFor (fun r' v' => r' = r ∧ i_Rel (k + 5) u' v') v v1 v2) u v1 v2 := by
  obtain ⟨s, a, R, P, Q, r, p, q, o, b, w, fn, fo, pt, l, st, hs, rfl, rfl, hA, hD, hY, hM⟩ := I
  have hB := ht_smb hM
  unfold wpX_tailFor
  dsimp only
  rcases ht_dec s v1 with ⟨j, hj, rfl, ht⟩ | hE
  · have hBv : ∀ v, v ≤ 200 → ht_bd R P (ht_up Q j v) := by
      intro v hv i hi
      obtain ⟨b1, b2, b3⟩ := hB i hi
      by_cases e : i = j
      · subst e; rw [ht_upE]; exact ⟨b1, b2, hv⟩
      · rw [ht_upN e]; exact ⟨b1, b2, b3⟩
    have hYv : ∀ v, v ≤ 200 → ht_YD (upd pt (3 * j + 2) (nI v)) R P (ht_up Q j v) := fun v _ => ht_YD_t hY
    have hdn : ∀ x y, x ≤ y → y ≤ 200 → ¬ v2 < nI (ht_M R P (ht_up Q j y) s) → ¬ v2 < nI (ht_M R P (ht_up Q j x) s) := by
      intro x y hxy hy h z
      refine h (ht_ltm (ht_M_mono hs (hBv x (by omega)) (hBv y hy) (fun i => ?_) (fun i => ?_)) (by have := ht_M_le hs (hBv y hy); omega) z)
      · exact Nat.le_refl _
      · by_cases e : i = j
        · subst e; rw [ht_upE, ht_upE]; exact hxy
        · rw [ht_upN e, ht_upN e]; exact Nat.le_refl _
    refine ht_xis1 hA hj ht (br_f (by decide) (ht_xG_tail (ok := fun v => ¬ v2 < nI (ht_M R P (ht_up Q j v) s)) hs hA hj (fun v _ => ht_D_t hD) hBv (fun v _ => Iff.rfl) hdn (fun G o' b' g1 g2 => ?_)))
    dsimp only
    unfold wpY_tailFor
    dsimp only
    unfold wpY_greatest
    dsimp only
    have ee : (3 : Int32) * nI j + 2 = nI (3 * j + 2) := by rw [show (3 : Int32) * nI j = nI (3 * j) from pk_mul 3 j]; exact nI_add _ 2
    have ce : (nI (3 * j + 2)).toNatClampNeg = 3 * j + 2 := nI_clamp (by omega)
    have ve : vp_in (nI (3 * j + 2)) 18 := vp_in_nI (by omega) (by omega)
    have J : ∀ l' st', i_Rel (k + 5) (nI (ht_cn s), a, r, p, q, o', b', w) (nI (ht_cn s), nI (ht_N s), a, pt, l', st') := fun l' st' => ht_mk hs hA hD hY hM
    rw [ee, ce]
    refine ht_yis1 hA hj ht (br_f (by decide) (ht_ycount (fn := fn) (fo := fo) hA ⟨ve, nm_e ?_⟩))
    by_cases neg : v2 < 0
    · have hG : G = 0 := by
        rcases Nat.eq_zero_or_pos G with z | z
        · exact z
        · refine absurd ?_ (g1 0 z).2
          have h0 := ht_ltm (x := v2) (Nat.zero_le (ht_M R P (ht_up Q j 0) s)) (by have := ht_M_le hs (hBv 0 (by omega)); omega) neg
          exact h0
      subst hG
      refine br_f (fun z => ?_) ⟨1, br_t neg ?_⟩
      · rw [Int32.le_iff_toInt_le] at z
        rw [Int32.lt_iff_toInt_lt] at neg
        have h1 : (200 : Int32).toInt = 200 := by decide
        have h2 : (0 : Int32).toInt = 0 := by decide
        omega
      · unfold wY_greatest_123
        rw [ee, ce, ht_u0]
        exact ⟨ve, nm_e ⟨rfl, J _ _⟩⟩
    · obtain ⟨m, hm, rfl⟩ := nI_of neg
      have hL : ∀ x, x ≤ 200 → ¬ nI m < nI (ht_M R P (ht_up Q j x) s) → x ≤ m := by
        intro x hx h
        have h1 := (ht_M_mem hs (hBv x hx) hj ht).2
        rw [ht_upE] at h1
        have h2 := ht_M_le hs (hBv x hx)
        rw [nI_ltI hm (by omega)] at h
        omega
      have go : ∀ V, V = min m 200 → wY_greatest_45 (fun r' v' => r' = ht_gI G ∧ i_Rel (k + 5) (nI (ht_cn s), a, r, p, q, o', b', w) v') (nI j) 2 (nI m) (pt (3 * j + 2)) (V + 2) (-1) (nI V) (nI (ht_cn s)) (nI (ht_N s)) a pt l st := by
        intro V hV
        have := ht_y45 (post := fun r' v' => r' = ht_gI G ∧ i_Rel (k + 5) (nI (ht_cn s), a, r, p, q, o', b', w) v') (wh := 2) (V := V) (lim := nI m) (P := P) (Rv := fun _ => R) (Qv := fun v => ht_up Q j v) (ok := fun v => ¬ nI m < nI (ht_M R P (ht_up Q j v) s)) hs hA hj (by omega) (by omega) hYv hBv (fun v _ => Iff.rfl) (fun x l' st' hx => ⟨ht_sp_G hV hL hx g1 g2, J l' st'⟩) V (pt (3 * j + 2)) l st (Nat.le_refl _) (fun u h1 h2 => absurd h2 (by omega))
        rw [ht_u0] at this
        exact this
      refine pk_le 200 m (fun z => ⟨200 + 2, ?_⟩) (fun z => ⟨m + 2, ?_⟩)
      · exact go 200 (by omega)
      · exact go m (by omega)
  · refine ht_xis0 hA hE (br_t rfl ?_)
    unfold wpY_tailFor
    dsimp only
    unfold wpY_greatest
    dsimp only
    exact ht_yis0 hA hE (br_t rfl ⟨rfl, ht_mk hs hA hD hY hM⟩)
theorem i_vc_releaseFor {k : Nat} {u : SX} {v : SY} (I : i_Rel k u v) (hk : k + 5 ≤ 2560) (v1 : Int32) (v2 : Int32) : wpX_releaseFor (fun r u' => wpY_releaseFor (fun r' v' => r' = r ∧ i_Rel (k + 5) u' v') v v1 v2) u v1 v2 := by
  obtain ⟨s, a, R, P, Q, r, p, q, o, b, w, fn, fo, pt, l, st, hs, rfl, rfl, hA, hD, hY, hM⟩ := I
  have hB := ht_smb hM
  unfold wpX_releaseFor
  dsimp only
  rcases ht_dec s v1 with ⟨j, hj, rfl, ht⟩ | hE
  · have hBv : ∀ v, v ≤ 200 → ht_bd (ht_up R j v) P Q := by
      intro v hv i hi
      obtain ⟨b1, b2, b3⟩ := hB i hi
      by_cases e : i = j
      · subst e; rw [ht_upE]; exact ⟨hv, b2, b3⟩
      · rw [ht_upN e]; exact ⟨b1, b2, b3⟩
    have hYv : ∀ v, v ≤ 200 → ht_YD (upd pt (3 * j + 0) (nI v)) (ht_up R j v) P Q := fun v _ => ht_YD_r hY
    have hdn : ∀ x y, x ≤ y → y ≤ 200 → ¬ v2 < nI (ht_M (ht_up R j y) P Q s) → ¬ v2 < nI (ht_M (ht_up R j x) P Q s) := by
      intro x y hxy hy h z
      refine h (ht_ltm (ht_M_mono hs (hBv x (by omega)) (hBv y hy) (fun i => ?_) (fun i => ?_)) (by have := ht_M_le hs (hBv y hy); omega) z)
      · by_cases e : i = j
        · subst e; rw [ht_upE, ht_upE]; exact hxy
        · rw [ht_upN e, ht_upN e]; exact Nat.le_refl _
      · exact Nat.le_refl _
    refine ht_xis1 hA hj ht (br_f (by decide) (ht_xG_release (ok := fun v => ¬ v2 < nI (ht_M (ht_up R j v) P Q s)) hs hA hj (fun v _ => ht_D_r hD) hBv (fun v _ => Iff.rfl) hdn (fun G o' b' g1 g2 => ?_)))
    dsimp only
    unfold wpY_releaseFor
    dsimp only
    unfold wpY_greatest
    dsimp only
    have ee : (3 : Int32) * nI j + 0 = nI (3 * j + 0) := by rw [show (3 : Int32) * nI j = nI (3 * j) from pk_mul 3 j]; exact nI_add _ 0
    have ce : (nI (3 * j + 0)).toNatClampNeg = 3 * j + 0 := nI_clamp (by omega)
    have ve : vp_in (nI (3 * j + 0)) 18 := vp_in_nI (by omega) (by omega)
    have J : ∀ l' st', i_Rel (k + 5) (nI (ht_cn s), a, r, p, q, o', b', w) (nI (ht_cn s), nI (ht_N s), a, pt, l', st') := fun l' st' => ht_mk hs hA hD hY hM
    rw [ee, ce]
    refine ht_yis1 hA hj ht (br_f (by decide) (ht_ycount (fn := fn) (fo := fo) hA ⟨ve, nm_e ?_⟩))
    by_cases neg : v2 < 0
    · have hG : G = 0 := by
        rcases Nat.eq_zero_or_pos G with z | z
        · exact z
        · refine absurd ?_ (g1 0 z).2
          have h0 := ht_ltm (x := v2) (Nat.zero_le (ht_M (ht_up R j 0) P Q s)) (by have := ht_M_le hs (hBv 0 (by omega)); omega) neg
          exact h0
      subst hG
      refine br_f (fun z => ?_) ⟨1, br_t neg ?_⟩
      · rw [Int32.le_iff_toInt_le] at z
        rw [Int32.lt_iff_toInt_lt] at neg
        have h1 : (200 : Int32).toInt = 200 := by decide
        have h2 : (0 : Int32).toInt = 0 := by decide
        omega
      · unfold wY_greatest_123
        rw [ee, ce, ht_u0]
        exact ⟨ve, nm_e ⟨rfl, J _ _⟩⟩
    · obtain ⟨m, hm, rfl⟩ := nI_of neg
      have hL : ∀ x, x ≤ 200 → ¬ nI m < nI (ht_M (ht_up R j x) P Q s) → x ≤ m := by
        intro x hx h
        have h1 := (ht_M_mem hs (hBv x hx) hj ht).1
        rw [ht_upE] at h1
        have h2 := ht_M_le hs (hBv x hx)
        rw [nI_ltI hm (by omega)] at h
        omega
      have go : ∀ V, V = min m 200 → wY_greatest_45 (fun r' v' => r' = ht_gI G ∧ i_Rel (k + 5) (nI (ht_cn s), a, r, p, q, o', b', w) v') (nI j) 0 (nI m) (pt (3 * j + 0)) (V + 2) (-1) (nI V) (nI (ht_cn s)) (nI (ht_N s)) a pt l st := by
        intro V hV
        have := ht_y45 (post := fun r' v' => r' = ht_gI G ∧ i_Rel (k + 5) (nI (ht_cn s), a, r, p, q, o', b', w) v') (wh := 0) (V := V) (lim := nI m) (P := P) (Rv := fun v => ht_up R j v) (Qv := fun _ => Q) (ok := fun v => ¬ nI m < nI (ht_M (ht_up R j v) P Q s)) hs hA hj (by omega) (by omega) hYv hBv (fun v _ => Iff.rfl) (fun x l' st' hx => ⟨ht_sp_G hV hL hx g1 g2, J l' st'⟩) V (pt (3 * j + 0)) l st (Nat.le_refl _) (fun u h1 h2 => absurd h2 (by omega))
        rw [ht_u0] at this
        exact this
      refine pk_le 200 m (fun z => ⟨200 + 2, ?_⟩) (fun z => ⟨m + 2, ?_⟩)
      · exact go 200 (by omega)
      · exact go m (by omega)
  · refine ht_xis0 hA hE (br_t rfl ?_)
    unfold wpY_releaseFor
    dsimp only
    unfold wpY_greatest
    dsimp only
    exact ht_yis0 hA hE (br_t rfl ⟨rfl, ht_mk hs hA hD hY hM⟩)
end
