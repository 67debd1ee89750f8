/-! interrupted: the greedy plan against the bounds of all sets -/
def ht_S (b : Nat → Bool) (f : Nat → Nat) : Nat → Nat
  | 0 => 0
  | n + 1 => ht_S b f n + if b n = true then f n else 0
def ht_mn (b : Nat → Bool) (f : Nat → Nat) : Nat → Nat
  | 0 => 100
  | n + 1 => if b n = true then min (ht_mn b f n) (f n) else ht_mn b f n
def ht_Bd (R P Q : Nat → Nat) (T : Nat) : Nat := ht_mn T.testBit R 6 + ht_S T.testBit P 6 + ht_mn T.testBit Q 6
def ht_PP (s : Nat) (P : Nat → Nat) (j : Nat) : Nat := if s.testBit j = true then P j else 0
theorem ht_S_ext {b b' : Nat → Bool} {f g : Nat → Nat} : ∀ n, (∀ j, j < n → (if b j = true then f j else 0) = (if b' j = true then g j else 0)) → ht_S b f n = ht_S b' g n := by
  intro n
  induction n with
  | zero => intro _; rfl
  | succ n ih =>
    intro h
    unfold ht_S
    rw [ih (fun j hj => h j (by omega)), h n (by omega)]
theorem ht_S_le {b : Nat → Bool} {f g : Nat → Nat} : ∀ n, (∀ j, j < n → f j ≤ g j) → ht_S b f n ≤ ht_S b g n := by
  intro n
  induction n with
  | zero => intro _; exact Nat.le_refl _
  | succ n ih =>
    intro h
    have h1 := ih (fun j hj => h j (by omega))
    have h2 := h n (by omega)
    unfold ht_S
    split <;> omega
theorem ht_S_ge {b : Nat → Bool} {f : Nat → Nat} {i : Nat} (hb : b i = true) : ∀ n, i < n → f i ≤ ht_S b f n := by
  intro n
  induction n with
  | zero => intro h; exact absurd h (Nat.not_lt_zero _)
  | succ n ih =>
    intro h
    unfold ht_S
    by_cases e : i = n
    · subst e; rw [if_pos hb]; omega
    · have := ih (by omega); omega
theorem ht_S_bd {b : Nat → Bool} {f : Nat → Nat} {k : Nat} : ∀ n, (∀ j, j < n → f j ≤ k) → ht_S b f n ≤ n * k := by
  intro n
  induction n with
  | zero => intro _; exact Nat.zero_le _
  | succ n ih =>
    intro h
    have h1 := ih (fun j hj => h j (by omega))
    have h2 := h n (by omega)
    unfold ht_S
    rw [Nat.succ_mul]
    split <;> omega
theorem ht_S_0 {b : Nat → Bool} {f : Nat → Nat} : ∀ n, (∀ j, j < n → f j = 0) → ht_S b f n = 0 := by
  intro n
  induction n with
  | zero => intro _; rfl
  | succ n ih =>
    intro h
    unfold ht_S
    rw [ih (fun j hj => h j (by omega)), h n (by omega)]
    split <;> rfl
def ht_dc (U : Nat → Nat) (i : Nat) : Nat → Nat := fun j => if j = i then U j - 1 else U j
theorem ht_S_lo {b : Nat → Bool} {U : Nat → Nat} {i : Nat} : ∀ n, n ≤ i → ht_S b (ht_dc U i) n = ht_S b U n := by
  intro n
  induction n with
  | zero => intro _; rfl
  | succ n ih =>
    intro h
    have e : ht_dc U i n = U n := if_neg (by omega)
    unfold ht_S
    rw [ih (by omega), e]
theorem ht_S_dec {b : Nat → Bool} {U : Nat → Nat} {i : Nat} (hU : 0 < U i) : ∀ n, i < n → ht_S b U n = ht_S b (ht_dc U i) n + if b i = true then 1 else 0 := by
  intro n
  induction n with
  | zero => intro h; exact absurd h (Nat.not_lt_zero _)
  | succ n ih =>
    intro h
    unfold ht_S
    by_cases e : i = n
    · subst e
      rw [ht_S_lo i (Nat.le_refl _)]
      have : ht_dc U i i = U i - 1 := if_pos rfl
      rw [this]
      split <;> omega
    · rw [ih (by omega)]
      have : ht_dc U i n = U n := if_neg (fun z => e z.symm)
      rw [this]
      omega
theorem ht_mn_le {b : Nat → Bool} {f : Nat → Nat} {i : Nat} (hb : b i = true) : ∀ n, i < n → ht_mn b f n ≤ f i := by
  intro n
  induction n with
  | zero => intro h; exact absurd h (Nat.not_lt_zero _)
  | succ n ih =>
    intro h
    unfold ht_mn
    by_cases e : i = n
    · subst e; rw [if_pos hb]; omega
    · have := ih (by omega)
      split <;> omega
theorem ht_mn_ge {b : Nat → Bool} {f : Nat → Nat} {t : Nat} (ht : t ≤ 100) : ∀ n, (∀ j, j < n → b j = true → t ≤ f j) → t ≤ ht_mn b f n := by
  intro n
  induction n with
  | zero => intro _; exact ht
  | succ n ih =>
    intro h
    have h1 := ih (fun j hj => h j (by omega))
    unfold ht_mn
    by_cases e : b n = true
    · rw [if_pos e]
      have := h n (by omega) e
      omega
    · rw [if_neg e]; exact h1
theorem ht_mn_100 (b : Nat → Bool) (f : Nat → Nat) : ∀ n, ht_mn b f n ≤ 100 := by
  intro n
  induction n with
  | zero => exact Nat.le_refl _
  | succ n ih =>
    unfold ht_mn
    split <;> omega
theorem ht_bools : ∀ b0 b1 b2 b3 b4 b5 : Bool, ∃ T, T < 64 ∧ T.testBit 0 = b0 ∧ T.testBit 1 = b1 ∧ T.testBit 2 = b2 ∧ T.testBit 3 = b3 ∧ T.testBit 4 = b4 ∧ T.testBit 5 = b5 := by
  intro b0 b1 b2 b3 b4 b5
  refine ⟨b0.toNat + 2 * b1.toNat + 4 * b2.toNat + 8 * b3.toNat + 16 * b4.toNat + 32 * b5.toNat, ?_⟩
  revert b0 b1 b2 b3 b4 b5
  decide +kernel
theorem ht_mask (p : Nat → Bool) : ∃ T, T < 64 ∧ ∀ j, j < 6 → T.testBit j = p j := by
  obtain ⟨T, h, h0, h1, h2, h3, h4, h5⟩ := ht_bools (p 0) (p 1) (p 2) (p 3) (p 4) (p 5)
  refine ⟨T, h, fun j hj => ?_⟩
  rcases (show j = 0 ∨ j = 1 ∨ j = 2 ∨ j = 3 ∨ j = 4 ∨ j = 5 by omega) with rfl | rfl | rfl | rfl | rfl | rfl <;> assumption
theorem ht_sub_of {T s : Nat} (hT : T < 64) (h : ∀ j, j < 6 → T.testBit j = true → s.testBit j = true) : T &&& s = T := by
  apply Nat.eq_of_testBit_eq
  intro j
  rw [Nat.testBit_and]
  by_cases hj : j < 6
  · cases e : T.testBit j with
    | false => rfl
    | true => rw [h j hj e]; rfl
  · have : T < 2 ^ j := Nat.lt_of_lt_of_le hT (Nat.pow_le_pow_right (n := 2) (by decide) (show 6 ≤ j by omega))
    rw [Nat.testBit_lt_two_pow this]; rfl
theorem ht_sub_to {T s j : Nat} (h : T &&& s = T) (ht : T.testBit j = true) : s.testBit j = true := by
  rw [← h, Nat.testBit_and, Bool.and_eq_true] at ht
  exact ht.2
theorem ht_ne : ∀ T, T < 64 → 1 ≤ T → ∃ j, j < 6 ∧ T.testBit j = true := by
  have h : (List.range 64).all (fun T => T == 0 || (List.range 6).any (fun j => T.testBit j)) = true := by decide +kernel
  intro T hT h1
  have := ht_allr h hT
  rw [Bool.or_eq_true, beq_iff_eq] at this
  rcases this with h | h
  · omega
  · simp only [List.any_eq_true, List.mem_range] at h
    exact h
def ht_I (s : Nat) (R P Q U : Nat → Nat) (t g : Nat) : Prop :=
  (∀ j, j < 6 → U j ≤ ht_PP s P j) ∧
  (∀ q, ∃ t0, (∀ j, j < 6 → q ≤ Q j → R j < t0 → U j = 0) ∧ t + ht_S (fun j => decide (q ≤ Q j ∧ t0 ≤ R j)) U 6 ≤ t0 + ht_S (fun j => decide (q ≤ Q j ∧ t0 ≤ R j)) (ht_PP s P) 6) ∧
  (g = 0 ∨ ∃ T, 1 ≤ T ∧ T < 64 ∧ T &&& s = T ∧ g ≤ ht_Bd R P Q T) ∧
  (∀ T, 1 ≤ T → T < 64 → T &&& s = T → ht_S T.testBit (ht_PP s P) 6 ≤ ht_S T.testBit U 6 + (t - ht_mn T.testBit R 6) ∧ (ht_S T.testBit U 6 = 0 → ht_Bd R P Q T ≤ g)) ∧
  ht_S (fun _ => true) U 6 ≤ 72 ∧ (40 ≤ t → ht_S (fun _ => true) U 6 + t ≤ 112)
def ht_sm (s : Nat) (R P Q : Nat → Nat) : Prop := ∀ j, j < 6 → R j ≤ 40 ∧ P j ≤ 12 ∧ Q j ≤ 40 ∧ (s.testBit j = true → 1 ≤ P j)
theorem ht_I0 {s : Nat} {R P Q U : Nat → Nat} (hM : ht_sm s R P Q) (hU : ∀ j, j < 6 → U j = ht_PP s P j) : ht_I s R P Q U 0 0 := by
  have e : ∀ b, ht_S b U 6 = ht_S b (ht_PP s P) 6 := fun b => ht_S_ext 6 (fun j hj => by rw [hU j hj])
  have hPP : ∀ j, j < 6 → ht_PP s P j ≤ 12 := by
    intro j hj
    have := (hM j hj).2.1
    unfold ht_PP
    split <;> omega
  refine ⟨fun j hj => by rw [hU j hj]; exact Nat.le_refl _, fun q => ⟨0, fun j _ _ h => absurd h (Nat.not_lt_zero _), by rw [e]; exact Nat.le_refl _⟩, Or.inl rfl, fun T h1 h64 hs => ⟨by rw [e]; omega, fun h => ?_⟩, ?_, fun h => absurd h (by omega)⟩
  · exfalso
    obtain ⟨j, hj, ht⟩ := ht_ne T h64 h1
    have h2 := ht_S_ge (b := T.testBit) (f := U) ht 6 hj
    have h3 := hU j hj
    have h4 := ht_sub_to hs ht
    have h5 := (hM j hj).2.2.2 h4
    unfold ht_PP at h3
    rw [if_pos h4] at h3
    omega
  · rw [e]
    exact ht_S_bd 6 hPP
theorem ht_Inone {s : Nat} {R P Q U : Nat → Nat} {t g : Nat} (hM : ht_sm s R P Q) (I : ht_I s R P Q U t g) (ht : t < 112) (hn : ∀ j, j < 6 → 0 < U j → ¬ R j ≤ t) : ht_I s R P Q U (t + 1) g := by
  obtain ⟨h1, h2, h3, h4, h5, h6⟩ := I
  refine ⟨h1, fun q => ⟨t + 1, fun j hj _ hr => ?_, ?_⟩, h3, fun T a b c => ⟨?_, (h4 T a b c).2⟩, h5, fun h => ?_⟩
  · have := hn j hj
    omega
  · have := ht_S_le (b := fun j => decide (q ≤ Q j ∧ t + 1 ≤ R j)) 6 h1
    omega
  · have := (h4 T a b c).1
    omega
  · by_cases e : 40 ≤ t
    · have : ht_S (fun _ => true) U 6 = 0 := ht_S_0 6 (fun j hj => by
        have a := hn j hj
        have b := (hM j hj).1
        omega)
      omega
    · omega
theorem ht_Isome {s : Nat} {R P Q U : Nat → Nat} {t g i : Nat} (hM : ht_sm s R P Q) (I : ht_I s R P Q U t g) (ht : t < 112) (hi : i < 6) (hU : 0 < U i) (hR : R i ≤ t) (hQ : ∀ j, j < 6 → 0 < U j → R j ≤ t → Q j ≤ Q i) : ht_I s R P Q (ht_dc U i) (t + 1) (max g (t + 1 + Q i)) := by
  obtain ⟨h1, h2, h3, h4, h5, h6⟩ := I
  have hle : ∀ j, ht_dc U i j ≤ U j := by
    intro j
    unfold ht_dc
    split <;> omega
  have dall := ht_S_dec (b := fun _ => true) hU 6 hi
  rw [if_pos rfl] at dall
  refine ⟨fun j hj => Nat.le_trans (hle j) (h1 j hj), fun q => ?_, ?_, fun T a b c => ?_, by omega, fun h => ?_⟩
  · by_cases e : q ≤ Q i
    · obtain ⟨t0, k1, k2⟩ := h2 q
      refine ⟨t0, fun j hj hq hr => ?_, ?_⟩
      · have := k1 j hj hq hr
        have := hle j
        omega
      · have ht0 : t0 ≤ R i := by
          have := k1 i hi e
          omega
        have d := ht_S_dec (b := fun j => decide (q ≤ Q j ∧ t0 ≤ R j)) hU 6 hi
        rw [if_pos (decide_eq_true ⟨e, ht0⟩)] at d
        omega
    · refine ⟨t + 1, fun j hj hq hr => ?_, ?_⟩
      · have a := hQ j hj
        have b := hle j
        omega
      · have := ht_S_le (b := fun j => decide (q ≤ Q j ∧ t + 1 ≤ R j)) 6 (fun j hj => Nat.le_trans (hle j) (h1 j hj))
        omega
  · right
    by_cases e : g ≤ t + 1 + Q i
    · obtain ⟨t0, k1, k2⟩ := h2 (Q i)
      have ht0 : t0 ≤ R i := by
        have := k1 i hi (Nat.le_refl _)
        omega
      obtain ⟨bR, bP, bQ, -⟩ := hM i hi
      obtain ⟨T, T64, hT⟩ := ht_mask (fun j => s.testBit j && decide (Q i ≤ Q j ∧ t0 ≤ R j))
      have si : s.testBit i = true := by
        have := h1 i hi
        unfold ht_PP at this
        split at this
        · assumption
        · omega
      have Ti : T.testBit i = true := by
        rw [hT i hi, si]
        exact decide_eq_true ⟨Nat.le_refl _, ht0⟩
      have Tj : ∀ j, j < 6 → T.testBit j = true → s.testBit j = true ∧ Q i ≤ Q j ∧ t0 ≤ R j := by
        intro j hj hb
        rw [hT j hj, Bool.and_eq_true, decide_eq_true_iff] at hb
        exact hb
      refine ⟨T, ?_, T64, ht_sub_of T64 (fun j hj hb => (Tj j hj hb).1), ?_⟩
      · rcases Nat.eq_zero_or_pos T with z | z
        · rw [z, Nat.zero_testBit] at Ti; exact absurd Ti (by decide)
        · exact z
      · have m1 : t0 ≤ ht_mn T.testBit R 6 := ht_mn_ge (by omega) 6 (fun j hj hb => (Tj j hj hb).2.2)
        have m2 : Q i ≤ ht_mn T.testBit Q 6 := ht_mn_ge (by omega) 6 (fun j hj hb => (Tj j hj hb).2.1)
        have eS : ht_S T.testBit P 6 = ht_S (fun j => decide (Q i ≤ Q j ∧ t0 ≤ R j)) (ht_PP s P) 6 := by
          refine ht_S_ext 6 (fun j hj => ?_)
          rw [hT j hj]
          unfold ht_PP
          cases s.testBit j <;> cases decide (Q i ≤ Q j ∧ t0 ≤ R j) <;> rfl
        have hS := ht_S_ge (b := fun j => decide (Q i ≤ Q j ∧ t0 ≤ R j)) (f := U) (decide_eq_true ⟨Nat.le_refl _, ht0⟩) 6 hi
        unfold ht_Bd
        omega
    · rcases h3 with h3 | ⟨T, a, b, c, d⟩
      · omega
      · exact ⟨T, a, b, c, by omega⟩
  · obtain ⟨k1, k2⟩ := h4 T a b c
    have d := ht_S_dec (b := T.testBit) hU 6 hi
    by_cases e : T.testBit i = true
    · rw [if_pos e] at d
      have m1 := ht_mn_le (f := R) e 6 hi
      have m2 := ht_mn_le (f := Q) e 6 hi
      refine ⟨by omega, fun z => ?_⟩
      have eS : ht_S T.testBit P 6 = ht_S T.testBit (ht_PP s P) 6 := by
        refine ht_S_ext 6 (fun j hj => ?_)
        by_cases z : T.testBit j = true
        · rw [if_pos z, if_pos z]
          unfold ht_PP
          rw [if_pos (ht_sub_to c z)]
        · rw [if_neg z, if_neg z]
      unfold ht_Bd
      omega
    · rw [if_neg e] at d
      exact ⟨by omega, fun z => by have := k2 (by omega); omega⟩
  · by_cases e : 40 ≤ t
    · have := h6 e; omega
    · omega
theorem ht_Iend {s : Nat} {R P Q U : Nat → Nat} {g m : Nat} (I : ht_I s R P Q U 112 g) (hm1 : ∀ T, 1 ≤ T → T < 64 → T &&& s = T → ht_Bd R P Q T ≤ m) (hm2 : m = 0 ∨ ∃ T, 1 ≤ T ∧ T < 64 ∧ T &&& s = T ∧ m = ht_Bd R P Q T) : m = g := by
  obtain ⟨h1, h2, h3, h4, h5, h6⟩ := I
  have h0 : ht_S (fun _ => true) U 6 = 0 := by have := h6 (by omega); omega
  have hz : ∀ j, j < 6 → U j = 0 := by
    intro j hj
    have := ht_S_ge (b := fun _ => true) (f := U) (i := j) rfl 6 hj
    omega
  have hall : ∀ T, 1 ≤ T → T < 64 → T &&& s = T → ht_Bd R P Q T ≤ g := fun T a b c => (h4 T a b c).2 (ht_S_0 6 hz)
  have le1 : m ≤ g := by
    rcases hm2 with h | ⟨T, a, b, c, d⟩
    · omega
    · rw [d]; exact hall T a b c
  have le2 : g ≤ m := by
    rcases h3 with h | ⟨T, a, b, c, d⟩
    · omega
    · exact Nat.le_trans d (hm1 T a b c)
  omega
