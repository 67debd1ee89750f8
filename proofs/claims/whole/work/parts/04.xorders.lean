/-! X: the walks of the small methods over orders -/
def ht_D (r p q : Nat → Int32) (R P Q : Nat → Nat) : Prop := ∀ j, j < 6 → r j = nI (R j) ∧ p j = nI (P j) ∧ q j = nI (Q j)
def ht_bd (R P Q : Nat → Nat) : Prop := ∀ j, j < 6 → R j ≤ 200 ∧ P j ≤ 12 ∧ Q j ≤ 200
def ht_ln (R P Q : Nat → Nat) : List Nat → Nat → Nat → Nat
  | [], _, g => g
  | j :: l, t, g => ht_ln R P Q l (max t (R j) + P j) (max g (max t (R j) + P j + Q j))
theorem ht_xlater {post : Int32 → Prop} {u : SX} {x y : Nat} (hx : x < 2 ^ 31) (hy : y < 2 ^ 31) (h : post (nI (max x y))) : wpX_later post u (nI x) (nI y) := by
  obtain ⟨f, a, r, p, q, o, b, w⟩ := u
  exact pk_le x y (fun z => by rw [Nat.max_eq_right z] at h; exact h) (fun z => by rw [Nat.max_eq_left (by omega)] at h; exact h)
theorem ht_xlen {post : Int32 → Prop} {n : Nat} {a r p q o b w : Nat → Int32} {R P Q : Nat → Nat} (hD : ht_D r p q R P Q) (hB : ht_bd R P Q) (hn : n ≤ 6) : ∀ (l : List Nat) (m k t g : Nat), l.length < m → (∀ i, i < l.length → o (k + i) = nI (ht_at l i)) → (∀ i, i < l.length → ht_at l i < 6) → k + l.length = n → t ≤ 400 * k → g ≤ 400 * k + 200 → post (nI (ht_ln R P Q l t g)) → wX_orderLength_6 post (nI n) a r p q o b w m (nI t) (nI g) (nI k) := by
  intro l
  induction l with
  | nil =>
    intro m k t g hm ho h6 hk ht hg h
    obtain ⟨m, rfl⟩ : ∃ m', m = m' + 1 := ⟨m - 1, by omega⟩
    have hk' : k = n := hk
    exact br_t (nI_le (by omega) (by omega)) h
  | cons x l ih =>
    intro m k t g hm ho h6 hk ht hg h
    obtain ⟨m, rfl⟩ : ∃ m', m = m' + 1 := ⟨m - 1, by omega⟩
    have hk' : k + (l.length + 1) = n := hk
    have hm' : l.length + 1 < m + 1 := hm
    have hx6 : x < 6 := h6 0 (Nat.succ_pos _)
    obtain ⟨eR, eP, eQ⟩ := hD x hx6
    obtain ⟨bR, bP, bQ⟩ := hB x hx6
    have e0 : o (nI k).toNatClampNeg = nI x := by rw [nI_clamp (by omega)]; exact ho 0 (Nat.succ_pos _)
    have cx : (nI x).toNatClampNeg = x := nI_clamp (by omega)
    have vx : vp_in (nI x) 6 := vp_in_nI hx6 (by omega)
    have hT : max t (R x) + P x ≤ 400 * (k + 1) := by omega
    refine br_f (nI_ge (by omega) (by omega)) ⟨vp_in_nI (by omega) (by omega), nm_r e0 ⟨vx, ?_⟩⟩
    rw [cx, eR, eP, eQ]
    refine ht_xlater (by omega) (by omega) ⟨vx, nm_r (nI_add _ _) ⟨vx, ?_⟩⟩
    rw [nI_add]
    refine ht_xlater (by omega) (by omega) (nm_r (nI_1 _) ?_)
    refine ih m (k + 1) _ _ (by omega) (fun i hi => ?_) (fun i hi => h6 (i + 1) (Nat.succ_lt_succ hi)) (by omega) hT (by omega) h
    have := ho (i + 1) (Nat.succ_lt_succ hi)
    rw [show k + 1 + i = k + (i + 1) by omega]
    exact this
theorem ht_xorderLength {post : Int32 → Prop} {n : Nat} {a r p q o b w : Nat → Int32} {R P Q : Nat → Nat} (hD : ht_D r p q R P Q) (hB : ht_bd R P Q) (hn : n ≤ 6) {l : List Nat} (hl : l.length = n) (ho : ht_OA o l) (h6 : ht_B6 l) (h : post (nI (ht_ln R P Q l 0 0))) : wpX_orderLength post (nI n, a, r, p, q, o, b, w) :=
  ⟨l.length + 1, ht_xlen hD hB hn l (l.length + 1) 0 0 0 (by omega) (fun i hi => by rw [Nat.zero_add]; exact ho i hi) h6 (by omega) (by omega) (by omega) h⟩
theorem ht_xkeep {post : SX → Prop} {n : Nat} {a r p q o w : Nat → Int32} (hn : n ≤ 6) : ∀ (d k : Nat) (b : Nat → Int32), k + d = n → (∀ i, i < k → b i = o i) → (∀ b' : Nat → Int32, (∀ i, i < n → b' i = o i) → post (nI n, a, r, p, q, o, b', w)) → wX_keepOrder_2 post (nI n) (d + 1) (nI k) a r p q o b w := by
  intro d
  induction d with
  | zero =>
    intro k b hk hb h
    exact br_t (nI_le (by omega) (by omega)) (h b (fun i hi => hb i (by omega)))
  | succ d ih =>
    intro k b hk hb h
    have vk : vp_in (nI k) 6 := vp_in_nI (by omega) (by omega)
    refine br_f (nI_ge (by omega) (by omega)) ⟨vk, vk, nm_e (nm_r (nI_1 _) ?_)⟩
    refine ih (k + 1) _ (by omega) (fun i hi => ?_) h
    rw [nI_clamp (by omega)]
    by_cases e : i = k
    · subst e; rw [pk_us]
    · rw [pk_un e]; exact hb i (by omega)
theorem ht_xkeepOrder {post : SX → Prop} {n : Nat} {a r p q o b w : Nat → Int32} (hn : n ≤ 6) (h : ∀ b' : Nat → Int32, (∀ i, i < n → b' i = o i) → post (nI n, a, r, p, q, o, b', w)) : wpX_keepOrder post (nI n, a, r, p, q, o, b, w) :=
  ⟨n + 1, ht_xkeep hn n 0 b (by omega) (fun i hi => absurd hi (by omega)) h⟩
theorem ht_xcb {post : Int32 → Prop} {n : Nat} {a r p q o b w : Nat → Int32} {x y : Nat} (hx : x < 6) (hy : y < 6) (hn : n ≤ 6) : ∀ (l : List Nat) (m k : Nat), l.length < m → (∀ i, i < l.length → o (k + i) = nI (ht_at l i)) → (∀ i, i < l.length → ht_at l i < 6) → k + l.length = n → post (if ht_cb l x y = true then 1 else 0) → wX_comesBefore_2 post (nI x) (nI y) (nI n) a r p q o b w m (nI k) := by
  intro l
  induction l with
  | nil =>
    intro m k hm ho h6 hk h
    obtain ⟨m, rfl⟩ : ∃ m', m = m' + 1 := ⟨m - 1, by omega⟩
    have hk' : k = n := hk
    exact br_t (nI_le (by omega) (by omega)) h
  | cons z l ih =>
    intro m k hm ho h6 hk h
    obtain ⟨m, rfl⟩ : ∃ m', m = m' + 1 := ⟨m - 1, by omega⟩
    have hk' : k + (l.length + 1) = n := hk
    have hm' : l.length + 1 < m + 1 := hm
    have hz6 : z < 6 := h6 0 (Nat.succ_pos _)
    have e0 : o (nI k).toNatClampNeg = nI z := by rw [nI_clamp (by omega)]; exact ho 0 (Nat.succ_pos _)
    have vk : vp_in (nI k) 6 := vp_in_nI (by omega) (by omega)
    refine br_f (nI_ge (by omega) (by omega)) ⟨vk, pk_eq z x (fun e => ?_) (fun e => ⟨vk, pk_eq z y (fun e2 => ?_) (fun e2 => nm_r (nI_1 _) ?_) e0⟩) e0⟩
    · unfold ht_cb at h; rw [if_pos e] at h; exact h
    · unfold ht_cb at h; rw [if_neg e, if_pos e2] at h; exact h
    · unfold ht_cb at h; rw [if_neg e, if_neg e2] at h
      refine ih m (k + 1) (by omega) (fun i hi => ?_) (fun i hi => h6 (i + 1) (Nat.succ_lt_succ hi)) (by omega) h
      have := ho (i + 1) (Nat.succ_lt_succ hi)
      rw [show k + 1 + i = k + (i + 1) by omega]
      exact this
theorem ht_xw0 {post : Int32 → Prop} {u : SX} (h : post 1) : wpX_isWanted post u (-1) (-1) (-1) := by
  obtain ⟨f, a, r, p, q, o, b, w⟩ := u
  exact br_t rfl (br_t rfl h)
theorem ht_nm1 {x : Nat} (hx : x < 2 ^ 31) : ¬ nI x = -1 := by
  intro e
  have h := nI_toInt hx
  rw [e] at h
  have : (-1 : Int32).toInt = -1 := by decide
  omega
theorem ht_xwF {post : Int32 → Prop} {n x : Nat} {a r p q o b w : Nat → Int32} (hx : x < 6) {l : List Nat} (hl : 0 < l.length) (ho : ht_OA o l) (h6 : ht_B6 l) (h : post (if ht_at l 0 = x then 1 else 0)) : wpX_isWanted post (nI n, a, r, p, q, o, b, w) (nI x) (-1) (-1) :=
  br_f (ht_nm1 (by omega)) (pk_eq (ht_at l 0) x (fun e => by rw [if_pos e] at h; exact br_t rfl h) (fun e => by rw [if_neg e] at h; exact h) (ho 0 hl) rfl (by have := h6 0 hl; omega))
theorem ht_xwW {post : Int32 → Prop} {n x y : Nat} {a r p q o b w : Nat → Int32} (hx : x < 6) (hy : y < 6) (hn : n ≤ 6) {l : List Nat} (hl : l.length = n) (ho : ht_OA o l) (h6 : ht_B6 l) (h : post (if ht_cb l x y = true then 1 else 0)) : wpX_isWanted post (nI n, a, r, p, q, o, b, w) (-1) (nI x) (nI y) := by
  refine br_t rfl (br_f (ht_nm1 (by omega)) ⟨l.length + 1, ht_xcb hx hy hn l (l.length + 1) 0 (by omega) (fun i hi => by rw [Nat.zero_add]; exact ho i hi) h6 (by omega) ?_⟩)
  by_cases e : ht_cb l x y = true
  · rw [if_pos e] at h ⊢; exact br_f (by decide) h
  · rw [if_neg e] at h ⊢; exact br_t rfl h
theorem ht_xlr {post : Int32 → Prop} {n : Nat} {a r p q o b w : Nat → Int32} {l : List Nat} (ho : ht_OA o l) (h6 : ht_B6 l) (hl : l.length = n) (hn : n ≤ 6) (hN : ht_lr l (n - 1) = none → post (-1)) (hS : ∀ t, ht_lr l (n - 1) = some t → post (nI t)) : wpX_lastRise post (nI n, a, r, p, q, o, b, w) := by
  have key : ∀ k, k + 1 < n → (ht_lr l (k + 1) = none → post (-1)) → (∀ t, ht_lr l (k + 1) = some t → post (nI t)) → wX_lastRise_7 post (nI n) a r p q o b w (k + 2) (nI k) := by
    intro k
    induction k with
    | zero =>
      intro hk h1 h2
      have v0 : vp_in (nI 0) 6 := vp_in_nI (by omega) (by omega)
      have v1 : vp_in (nI 0 + 1) 6 := vp_in_nI (n := 1) (by omega) (by omega)
      refine br_f (nI_pos (by omega)) ⟨v0, v1, pk_le (ht_at l 1) (ht_at l 0) (fun z => nm_e ?_) (fun z => ?_) (ho 1 (by omega)) (ho 0 (by omega)) (by have := h6 1 (by omega); omega) (by have := h6 0 (by omega); omega)⟩
      · refine br_t (by decide) (h1 ?_)
        unfold ht_lr; rw [if_neg (Nat.not_lt.mpr z)]; rfl
      · refine h2 0 ?_
        unfold ht_lr; rw [if_pos z]
    | succ k ih =>
      intro hk h1 h2
      have v0 : vp_in (nI (k + 1)) 6 := vp_in_nI (by omega) (by omega)
      have v1 : vp_in (nI (k + 1) + 1) 6 := by rw [nI_1]; exact vp_in_nI (by omega) (by omega)
      have e1 : o (nI (k + 1) + 1).toNatClampNeg = nI (ht_at l (k + 2)) := by rw [nI_1, nI_clamp (by omega)]; exact ho _ (by omega)
      have e0 : o (nI (k + 1)).toNatClampNeg = nI (ht_at l (k + 1)) := by rw [nI_clamp (by omega)]; exact ho _ (by omega)
      refine br_f (nI_pos (by omega)) ⟨v0, v1, pk_le (ht_at l (k + 2)) (ht_at l (k + 1)) (fun z => nm_r (pk_m1 _) ?_) (fun z => ?_) e1 e0 (by have := h6 (k + 2) (by omega); omega) (by have := h6 (k + 1) (by omega); omega)⟩
      · have e : ht_lr l (k + 1 + 1) = ht_lr l (k + 1) := by
          conv => lhs; unfold ht_lr
          rw [if_neg (Nat.not_lt.mpr z)]
        rw [e] at h1
        exact ih (by omega) h1 (fun t ht => h2 t (e.trans ht))
      · refine h2 (k + 1) ?_
        unfold ht_lr; rw [if_pos z]
  by_cases h2 : 2 ≤ n
  · have e : nI n - 2 = nI (n - 2) := pk_sub (b := 2) h2
    refine nm_r e ⟨n, ?_⟩
    have := key (n - 2) (by omega)
    rw [show n - 2 + 1 = n - 1 by omega, show n - 2 + 2 = n by omega] at this
    exact this hN hS
  · have hn' : n - 1 = 0 := by omega
    rw [hn'] at hN
    refine nm_e ⟨1, br_t ?_ (hN rfl)⟩
    rcases (show n = 0 ∨ n = 1 by omega) with rfl | rfl <;> decide
theorem ht_xla {post : Int32 → Prop} {n t : Nat} {a r p q o b w : Nat → Int32} {l : List Nat} (ho : ht_OA o l) (h6 : ht_B6 l) (hl : l.length = n) (hn : n ≤ 6) (ht : t < n) : ∀ k, k < n → post (nI (ht_la l t k)) → wX_lastAbove_7 post (nI t) (nI n) a r p q o b w (k + 1) (nI k) := by
  intro k
  induction k with
  | zero =>
    intro hk h
    exact br_t (nI_le (by omega) (by omega)) h
  | succ k ih =>
    intro hk h
    unfold ht_la at h
    by_cases e : k + 1 ≤ t
    · rw [if_pos e] at h
      exact br_t (nI_le e (by omega)) h
    · rw [if_neg e] at h
      have e1 : o (nI (k + 1)).toNatClampNeg = nI (ht_at l (k + 1)) := by rw [nI_clamp (by omega)]; exact ho _ (by omega)
      have e0 : o (nI t).toNatClampNeg = nI (ht_at l t) := by rw [nI_clamp (by omega)]; exact ho _ (by omega)
      refine br_f (nI_ge (by omega) (by omega)) ⟨vp_in_nI (by omega) (by omega), vp_in_nI (by omega) (by omega), pk_le (ht_at l (k + 1)) (ht_at l t) (fun z => nm_r (pk_m1 _) ?_) (fun z => ?_) e1 e0 (by have := h6 (k + 1) (by omega); omega) (by have := h6 t (by omega); omega)⟩
      · rw [if_neg (by omega)] at h; exact ih (by omega) h
      · rw [if_pos z] at h; exact h
theorem ht_la_lt {l : List Nat} {t n : Nat} (ht : t < n) : ∀ k, k < n → ht_la l t k < n := by
  intro k
  induction k with
  | zero => intro _; exact ht
  | succ k ih =>
    intro hk
    unfold ht_la
    split
    · exact ht
    · split
      · exact hk
      · exact ih (by omega)
theorem ht_lr_lt {l : List Nat} : ∀ k t, ht_lr l k = some t → t < k := by
  intro k
  induction k with
  | zero => intro t h; exact nomatch h
  | succ k ih =>
    intro t h
    unfold ht_lr at h
    split at h
    · cases h; omega
    · have := ih t h; omega
theorem ht_xsw {post : SX → Prop} {n x y : Nat} {a r p q o b w : Nat → Int32} (hx : x < 6) (hy : y < 6) (h : post (nI n, a, r, p, q, upd (upd o x (o y)) y (o x), b, w)) : wpX_swap post (nI n, a, r, p, q, o, b, w) (nI x) (nI y) := by
  have cx : (nI x).toNatClampNeg = x := nI_clamp (by omega)
  have cy : (nI y).toNatClampNeg = y := nI_clamp (by omega)
  have vx : vp_in (nI x) 6 := vp_in_nI hx (by omega)
  have vy : vp_in (nI y) 6 := vp_in_nI hy (by omega)
  unfold wpX_swap
  dsimp only
  rw [cx, cy]
  exact ⟨vx, nm_e ⟨vy, vx, nm_e ⟨vy, nm_e h⟩⟩⟩
theorem ht_xrv {post : SX → Prop} {n : Nat} {a r p q b w : Nat → Int32} (hn : n ≤ 6) : ∀ (m : Nat) (l : List Nat) (o : Nat → Int32) (x y : Nat), ht_OA o l → ht_B6 l → l.length = n → x ≤ n → y < n → y ≤ x + m → (∀ o', ht_OA o' (ht_rv m l x y) → post (nI n, a, r, p, q, o', b, w)) → wX_reverseAfter_11 post (m + 1) (nI y) (nI x) (nI n) a r p q o b w := by
  intro m
  induction m with
  | zero =>
    intro l o x y ho h6 hl hx hy hm h
    exact br_t (nI_le (by omega) (by omega)) (h o ho)
  | succ m ih =>
    intro l o x y ho h6 hl hx hy hm h
    unfold ht_rv at h
    by_cases e : y ≤ x
    · rw [if_pos e] at h
      exact br_t (nI_le e (by omega)) (h o ho)
    · rw [if_neg e] at h
      obtain ⟨y, rfl⟩ : ∃ y', y = y' + 1 := ⟨y - 1, by omega⟩
      refine br_f (nI_ge (by omega) (by omega)) (ht_xsw (by omega) (by omega) (nm_r (pk_m1 _) (nm_r (nI_1 _) ?_)))
      exact ih (ht_sw l x (y + 1)) _ (x + 1) y (ht_OA_sw ho (by omega) (by omega)) (ht_B6_sw h6 (by omega) (by omega)) (by rw [ht_sw_len]; exact hl) (by omega) (by omega) (by omega) h
theorem ht_xnext {post : Int32 → SX → Prop} {n : Nat} {a r p q o b w : Nat → Int32} {l : List Nat} (ho : ht_OA o l) (h6 : ht_B6 l) (hl : l.length = n) (hn : n ≤ 6) (hN : ht_nx n l = none → post 0 (nI n, a, r, p, q, o, b, w)) (hS : ∀ l' o', ht_nx n l = some l' → ht_OA o' l' → post 1 (nI n, a, r, p, q, o', b, w)) : wpX_nextOrder post (nI n, a, r, p, q, o, b, w) := by
  refine ht_xlr ho h6 hl hn (fun e => ?_) (fun t e => ?_)
  · refine br_f (by decide) (hN ?_)
    unfold ht_nx; rw [e]
  · have htn := ht_lr_lt _ _ e
    have hv := ht_la_lt (l := l) (t := t) (n := n) (by omega) (n - 1) (by omega)
    refine br_t (nI_pos' (by omega)) (nm_r (pk_sub (b := 1) (by omega)) ⟨n - 1 + 1, ht_xla ho h6 hl hn (by omega) (n - 1) (by omega) (ht_xsw (by omega) (by omega) ?_)⟩)
    refine nm_r (pk_sub (b := 1) (by omega)) (nm_r (nI_1 _) ⟨6 + 1, ?_⟩)
    refine ht_xrv hn 6 (ht_sw l t (ht_la l t (n - 1))) _ (t + 1) (n - 1) (ht_OA_sw ho (by omega) (by omega)) (ht_B6_sw h6 (by omega) (by omega)) (by rw [ht_sw_len]; exact hl) (by omega) (by omega) (by omega) (fun o' h' => hS _ o' ?_ h')
    unfold ht_nx; rw [e]
