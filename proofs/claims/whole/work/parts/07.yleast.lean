/-! the least over all orders, on both sides; Y's leastOf, leastFirst, best; begins -/
theorem ht_ms_spec (W : Nat → Bool) (L : Nat → Nat) (g0 : Nat) : ∀ c, (ht_ms W L g0 c = g0 ∨ (ht_am W L g0 c < c ∧ W (ht_am W L g0 c) = true ∧ L (ht_am W L g0 c) = ht_ms W L g0 c)) ∧ (∀ i, i < c → W i = true → ht_ms W L g0 c ≤ L i) ∧ (∀ i, i < ht_am W L g0 c → W i = true → ht_ms W L g0 c < L i) := by
  intro c
  induction c with
  | zero => exact ⟨Or.inl rfl, fun i hi => absurd hi (Nat.not_lt_zero _), fun i hi => absurd hi (Nat.not_lt_zero _)⟩
  | succ c ih =>
    obtain ⟨h1, h2, h3⟩ := ih
    unfold ht_ms ht_am
    by_cases e : W c = true ∧ L c < ht_ms W L g0 c
    · rw [if_pos e, if_pos e]
      refine ⟨Or.inr ⟨by omega, e.1, rfl⟩, fun i hi hw => ?_, fun i hi hw => ?_⟩
      · by_cases ic : i = c
        · subst ic; omega
        · have := h2 i (by omega) hw; omega
      · have := h2 i hi hw; omega
    · rw [if_neg e, if_neg e]
      refine ⟨?_, fun i hi hw => ?_, h3⟩
      · rcases h1 with h1 | ⟨a, b, d⟩
        · exact Or.inl h1
        · exact Or.inr ⟨by omega, b, d⟩
      · by_cases ic : i = c
        · subst ic
          have : ¬ L i < ht_ms W L g0 i := fun z => e ⟨hw, z⟩
          omega
        · exact h2 i (by omega) hw
theorem ht_ms_att {W : Nat → Bool} {L : Nat → Nat} {g0 N : Nat} (hL : ∀ c, c < N → L c < g0) (hx : ∃ c, c < N ∧ W c = true) : ht_ms W L g0 N < g0 ∧ ht_am W L g0 N < N ∧ W (ht_am W L g0 N) = true ∧ L (ht_am W L g0 N) = ht_ms W L g0 N := by
  obtain ⟨c, hc, hw⟩ := hx
  obtain ⟨h1, h2, _⟩ := ht_ms_spec W L g0 N
  have a := h2 c hc hw
  have b := hL c hc
  rcases h1 with h1 | h1
  · omega
  · exact ⟨by omega, h1⟩
theorem ht_ms_eq {W : Nat → Bool} {L : Nat → Nat} {N : Nat} (hL : ∀ c, c < N → L c ≤ 2600) (hx : ∃ c, c < N ∧ W c = true) : ht_ms W L 100000 N = ht_ms W L 1000000 N := by
  obtain ⟨_, a1, a2, a3⟩ := ht_ms_att (W := W) (L := L) (g0 := 100000) (N := N) (fun c hc => by have := hL c hc; omega) hx
  obtain ⟨_, b1, b2, b3⟩ := ht_ms_att (W := W) (L := L) (g0 := 1000000) (N := N) (fun c hc => by have := hL c hc; omega) hx
  have c1 := (ht_ms_spec W L 100000 N).2.1 _ b1 b2
  have c2 := (ht_ms_spec W L 1000000 N).2.1 _ a1 a2
  omega
theorem ht_yleastL {post : Int32 → SY → Prop} {s : Nat} {a pt : Nat → Int32} {R P Q : Nat → Nat} {x1 x2 : Int32} {W : Nat → Bool} (hs : s < 64) (hA : ht_PR a s) (hY : ht_YD pt R P Q) (hB : ht_bd R P Q)
    (hW : (x1 = x2 ∧ ∀ c, W c = true) ∨ (∃ i j, i < 6 ∧ j < 6 ∧ i ≠ j ∧ x1 = nI i ∧ x2 = nI j ∧ ∀ c, W c = ht_cb (ht_or s c) i j))
    (K : ∀ l st, post (nI (ht_ms W (ht_L R P Q s) 100000 (ht_N s))) (nI (ht_cn s), nI (ht_N s), a, pt, l, st)) :
    ∀ (d c : Nat) (l st : Nat → Int32), c + d = ht_N s → wY_leastOf_10 post x1 x2 (d + 1) (nI (ht_ms W (ht_L R P Q s) 100000 c)) (nI c) (nI (ht_cn s)) (nI (ht_N s)) a pt l st := by
  intro d
  obtain ⟨-, hN0, hN7, hn⟩ := ht_nums hs
  induction d with
  | zero =>
    intro c l st hc
    have e : c = ht_N s := by omega
    subst e
    exact br_t (nI_le (by omega) (by omega)) (K l st)
  | succ d ih =>
    intro c l st hc
    have hc' : c < ht_N s := by omega
    have hm := ht_ms_le W (ht_L R P Q s) 100000 c
    have hL := ht_L_le hB hs hc'
    have ih' := ih (c + 1) (ht_yl l 0 (ht_or s c)) (ht_ys R P st 0 (ht_or s c)) (by omega)
    have eT : W c = true → ht_L R P Q s c < ht_ms W (ht_L R P Q s) 100000 c → ht_ms W (ht_L R P Q s) 100000 (c + 1) = ht_L R P Q s c := fun h1 h2 => if_pos ⟨h1, h2⟩
    have eF : ¬ (W c = true ∧ ht_L R P Q s c < ht_ms W (ht_L R P Q s) 100000 c) → ht_ms W (ht_L R P Q s) 100000 (c + 1) = ht_ms W (ht_L R P Q s) 100000 c := fun h => if_neg h
    refine br_f (nI_ge (by omega) (by omega)) (br_f (nI_ge (b := 720) (by omega) (by decide)) (ht_yspell hs hA hY hB hc' ?_))
    refine pk_le _ _ (fun z => nm_r (nI_1 _) ?_) (fun z => ?_)
    · rw [eF (fun h => by have := h.2; omega)] at ih'
      exact ih'
    · rcases hW with ⟨e, hw⟩ | ⟨i, j, hi, hj, hij, e1, e2, hw⟩
      · refine br_t e (nm_r (nI_1 _) ?_)
        rw [eT (hw c) z] at ih'
        exact ih'
      · subst e1 e2
        obtain ⟨-, hnd, -⟩ := ht_good hs hc'
        have h6 := ht_or_B6 hs hc'
        have hlen := ht_or_len s c
        have hO := ht_yl_OA (ht_or s c) l
        have hcb := ht_cb_pl (ht_or s c) i j 0 hij hnd (by omega)
        have hple : ∀ i, ht_pl (ht_or s c) i 0 6 < 2 ^ 31 := by
          intro i
          have : ∀ (M : List Nat) (k z : Nat), ht_pl M i k z ≤ k + M.length + z := by
            intro M
            induction M with
            | nil => intro k z; show z ≤ _; omega
            | cons y M ihm =>
              intro k z
              show ht_pl M i (k + 1) _ ≤ k + (M.length + 1) + z
              have := ihm (k + 1) (if y = i then k else z)
              have e : ∀ w, ht_pl M i (k + 1) w = w ∨ ht_pl M i (k + 1) w ≤ k + M.length := by
                intro w
                have : ∀ (M : List Nat) (k w : Nat), ht_pl M i k w = w ∨ ht_pl M i k w < k + M.length := by
                  intro M
                  induction M with
                  | nil => intro k w; exact Or.inl rfl
                  | cons y M ih3 =>
                    intro k w
                    show ht_pl M i (k + 1) _ = w ∨ ht_pl M i (k + 1) _ < k + (M.length + 1)
                    rcases ih3 (k + 1) (if y = i then k else w) with h | h
                    · rw [h]
                      by_cases e : y = i
                      · rw [if_pos e]; exact Or.inr (by omega)
                      · rw [if_neg e]; exact Or.inl rfl
                    · exact Or.inr (by omega)
                rcases this M (k + 1) w with h | h
                · exact Or.inl h
                · exact Or.inr (by omega)
              by_cases ey : y = i
              · rw [if_pos ey]
                rcases e k with h | h <;> omega
              · rw [if_neg ey]
                rcases e z with h | h <;> omega
          have := this (ht_or s c) 0 6
          omega
        refine br_f (fun e => hij ((nI_eq (by omega) (by omega)).mp e)) (ht_yplace hn hi hlen hO h6 (ht_yplace hn hj hlen hO h6 ?_))
        refine pk_le _ _ (fun y => nm_r (nI_1 _) ?_) (fun y => nm_r (nI_1 _) ?_) rfl rfl (hple j) (hple i)
        · rw [eF (fun h => by have h1 := h.1; rw [hw c, hcb] at h1; omega)] at ih'
          exact ih'
        · rw [eT (by rw [hw c, hcb]; exact y) z] at ih'
          exact ih'
theorem ht_yleastOf {post : Int32 → SY → Prop} {s : Nat} {fn fo : Int32} {a pt l st : Nat → Int32} {R P Q : Nat → Nat} {x1 x2 : Int32} {W : Nat → Bool} (hs : s < 64) (hA : ht_PR a s) (hY : ht_YD pt R P Q) (hB : ht_bd R P Q)
    (hW : (x1 = x2 ∧ ∀ c, W c = true) ∨ (∃ i j, i < 6 ∧ j < 6 ∧ i ≠ j ∧ x1 = nI i ∧ x2 = nI j ∧ ∀ c, W c = ht_cb (ht_or s c) i j))
    (K : ∀ l st, post (nI (ht_ms W (ht_L R P Q s) 100000 (ht_N s))) (nI (ht_cn s), nI (ht_N s), a, pt, l, st)) : wpY_leastOf post (fn, fo, a, pt, l, st) x1 x2 :=
  ht_ycount (fn := fn) (fo := fo) hA ⟨ht_N s + 1, ht_yleastL hs hA hY hB hW K (ht_N s) 0 l st (by omega)⟩
theorem ht_yfirstL {post : Int32 → SY → Prop} {s j : Nat} {a pt : Nat → Int32} {R P Q : Nat → Nat} (hs : s < 64) (hA : ht_PR a s) (hY : ht_YD pt R P Q) (hB : ht_bd R P Q) (hj : j < 6) (hn0 : 0 < ht_cn s)
    (K : ∀ l st, post (nI (ht_ms (fun c => decide (ht_at (ht_or s c) 0 = j)) (ht_L R P Q s) 100000 (ht_N s))) (nI (ht_cn s), nI (ht_N s), a, pt, l, st)) :
    ∀ (d c : Nat) (l st : Nat → Int32), c + d = ht_N s → wY_leastFirst_19 post (nI j) (d + 1) (nI (ht_ms (fun c => decide (ht_at (ht_or s c) 0 = j)) (ht_L R P Q s) 100000 c)) (nI c) (nI (ht_cn s)) (nI (ht_N s)) a pt l st := by
  intro d
  obtain ⟨-, hN0, hN7, hn⟩ := ht_nums hs
  induction d with
  | zero =>
    intro c l st hc
    have e : c = ht_N s := by omega
    subst e
    exact br_t (nI_le (by omega) (by omega)) (K l st)
  | succ d ih =>
    intro c l st hc
    have hc' : c < ht_N s := by omega
    have hm := ht_ms_le (fun c => decide (ht_at (ht_or s c) 0 = j)) (ht_L R P Q s) 100000 c
    have hL := ht_L_le hB hs hc'
    have ih' := ih (c + 1) (ht_yl l 0 (ht_or s c)) (ht_ys R P st 0 (ht_or s c)) (by omega)
    have hO := ht_yl_OA (ht_or s c) l 0 (by rw [ht_or_len]; exact hn0)
    have h6 := ht_or_B6 hs hc' 0 (by rw [ht_or_len]; exact hn0)
    refine br_f (nI_ge (by omega) (by omega)) (br_f (nI_ge (b := 720) (by omega) (by decide)) (ht_yspell hs hA hY hB hc' ?_))
    refine pk_eq (ht_at (ht_or s c) 0) j (fun e => ?_) (fun e => nm_r (nI_1 _) ?_) hO
    · refine pk_le _ _ (fun z => nm_r (nI_1 _) ?_) (fun z => nm_r (nI_1 _) ?_)
      · have eF : ht_ms (fun c => decide (ht_at (ht_or s c) 0 = j)) (ht_L R P Q s) 100000 (c + 1) = ht_ms (fun c => decide (ht_at (ht_or s c) 0 = j)) (ht_L R P Q s) 100000 c := if_neg (fun h => by have := h.2; omega)
        rw [eF] at ih'; exact ih'
      · have eT : ht_ms (fun c => decide (ht_at (ht_or s c) 0 = j)) (ht_L R P Q s) 100000 (c + 1) = ht_L R P Q s c := if_pos ⟨decide_eq_true e, z⟩
        rw [eT] at ih'; exact ih'
    · have eF : ht_ms (fun c => decide (ht_at (ht_or s c) 0 = j)) (ht_L R P Q s) 100000 (c + 1) = ht_ms (fun c => decide (ht_at (ht_or s c) 0 = j)) (ht_L R P Q s) 100000 c := if_neg (fun h => e (of_decide_eq_true h.1))
      rw [eF] at ih'; exact ih'
theorem ht_all {R P Q : Nat → Nat} (hB : ht_bd R P Q) {s : Nat} (hs : s < 64) : ∀ c, c < ht_N s → ht_L R P Q s c ≤ 2600 := fun _ hc => ht_L_le hB hs hc
theorem ht_ybestL {post : SY → Prop} {s m A : Nat} {a pt : Nat → Int32} {R P Q : Nat → Nat} (hs : s < 64) (hA : ht_PR a s) (hY : ht_YD pt R P Q) (hB : ht_bd R P Q) (hAN : A < ht_N s) (hm : ht_L R P Q s A = m) (hlt : ∀ i, i < A → m < ht_L R P Q s i)
    (K : ∀ l st, post (nI (ht_cn s), nI (ht_N s), a, pt, ht_yl l 0 (ht_or s A), ht_ys R P st 0 (ht_or s A))) :
    ∀ (d c : Nat) (l st : Nat → Int32), c + d = A → wY_best_9 post (nI m) (d + 1) (nI c) (nI (ht_cn s)) (nI (ht_N s)) a pt l st := by
  intro d
  obtain ⟨-, hN0, hN7, hn⟩ := ht_nums hs
  have hLA := ht_L_le hB hs hAN
  induction d with
  | zero =>
    intro c l st hc
    have e : c = A := by omega
    subst e
    refine br_f (nI_ge (b := 720) (by omega) (by decide)) (ht_yspell hs hA hY hB hAN ?_)
    exact br_t (by rw [hm]) (K l st)
  | succ d ih =>
    intro c l st hc
    have hL := ht_L_le hB hs (show c < ht_N s by omega)
    have h1 := hlt c (by omega)
    refine br_f (nI_ge (b := 720) (by omega) (by decide)) (ht_yspell hs hA hY hB (by omega) ?_)
    refine br_f (fun e => ?_) (nm_r (nI_1 _) (ih (c + 1) _ _ (by omega)))
    have := (nI_eq (by omega) (by omega)).mp e
    omega
theorem ht_ybest {post : SY → Prop} {s : Nat} {fn fo : Int32} {a pt l st : Nat → Int32} {R P Q : Nat → Nat} (hs : s < 64) (hA : ht_PR a s) (hY : ht_YD pt R P Q) (hB : ht_bd R P Q)
    (K : ∀ l st, post (nI (ht_cn s), nI (ht_N s), a, pt, ht_yl l 0 (ht_or s (ht_am (fun _ => true) (ht_L R P Q s) 1000000 (ht_N s))), ht_ys R P st 0 (ht_or s (ht_am (fun _ => true) (ht_L R P Q s) 1000000 (ht_N s))))) : wpY_best post (fn, fo, a, pt, l, st) := by
  obtain ⟨-, hN0, hN7, hn⟩ := ht_nums hs
  have hx : ∃ c, c < ht_N s ∧ (fun _ : Nat => true) c = true := ⟨0, hN0, rfl⟩
  obtain ⟨_, b1, b2, b3⟩ := ht_ms_att (W := fun _ => true) (L := ht_L R P Q s) (g0 := 1000000) (N := ht_N s) (fun c hc => by have := ht_L_le hB hs hc; omega) hx
  have b4 := (ht_ms_spec (fun _ => true) (ht_L R P Q s) 1000000 (ht_N s)).2.2
  have eq := ht_ms_eq (W := fun _ => true) (ht_all hB hs) hx
  refine ht_yleastOf (fn := fn) (fo := fo) (W := fun _ => true) hs hA hY hB (Or.inl ⟨rfl, fun _ => rfl⟩) (fun l st => ⟨ht_am (fun _ => true) (ht_L R P Q s) 1000000 (ht_N s) + 1, ?_⟩)
  rw [eq]
  exact ht_ybestL hs hA hY hB b1 b3 (fun i hi => b4 i hi rfl) K _ 0 l st (by omega)
def ht_bg (R P : Nat → Nat) : List Nat → Nat → Nat → Nat
  | [], _, _ => 0
  | x :: l, j, t => if x = j then max t (R x) else ht_bg R P l j (max t (R x) + P x)
theorem ht_ys_not (R P : Nat → Nat) : ∀ (L : List Nat) (st : Nat → Int32) (t j : Nat), L.contains j = false → ht_ys R P st t L j = st j := by
  intro L
  induction L with
  | nil => intro st t j _; rfl
  | cons x L ih =>
    intro st t j h
    rw [List.contains_cons, Bool.or_eq_false_iff] at h
    show ht_ys R P (upd st x _) _ L j = st j
    rw [ih _ _ _ h.2, pk_un (fun e => by rw [e] at h; simp at h)]
theorem ht_ys_bg (R P : Nat → Nat) : ∀ (L : List Nat) (st : Nat → Int32) (t j : Nat), ht_nd L = true → j ∈ L → ht_ys R P st t L j = nI (ht_bg R P L j t) := by
  intro L
  induction L with
  | nil => intro st t j _ h; exact absurd h List.not_mem_nil
  | cons x L ih =>
    intro st t j hnd h
    unfold ht_nd at hnd
    rw [Bool.and_eq_true, Bool.not_eq_true'] at hnd
    show ht_ys R P (upd st x _) _ L j = _
    unfold ht_bg
    by_cases e : x = j
    · subst e
      rw [if_pos rfl, ht_ys_not R P L _ _ _ hnd.1, pk_us]
    · rw [if_neg e]
      exact ih _ _ _ hnd.2 ((List.mem_cons.mp h).resolve_left (fun z => e z.symm))
theorem ht_xbegL {post : Int32 → SX → Prop} {n j : Nat} {a r p q o b w : Nat → Int32} {R P Q : Nat → Nat} (hD : ht_D r p q R P Q) (hB : ht_bd R P Q) (hn : n ≤ 6) (hj : j < 6) : ∀ (l : List Nat) (m k t : Nat), l.length < m → (∀ i, i < l.length → b (k + i) = nI (ht_at l i)) → (∀ i, i < l.length → ht_at l i < 6) → k + l.length = n → t ≤ 400 * k → j ∈ l → post (nI (ht_bg R P l j t)) (nI n, a, r, p, q, o, b, w) → wX_begins_22 post (nI j) (nI n) a r p q o b w m (nI t) (nI k) := by
  intro l
  induction l with
  | nil => intro m k t _ _ _ _ _ h; exact absurd h List.not_mem_nil
  | cons x l ih =>
    intro m k t hm ho h6 hk ht hjm h
    obtain ⟨m, rfl⟩ : ∃ m', m = m' + 1 := ⟨m - 1, by omega⟩
    have hk' : k + (l.length + 1) = n := hk
    have hm' : l.length + 1 < m + 1 := hm
    have hx6 : x < 6 := h6 0 (Nat.succ_pos _)
    obtain ⟨eR, eP, eQ⟩ := hD x hx6
    obtain ⟨bR, bP, bQ⟩ := hB x hx6
    have e0 : b (nI k).toNatClampNeg = nI x := by rw [nI_clamp (by omega)]; exact ho 0 (Nat.succ_pos _)
    have cx : (nI x).toNatClampNeg = x := nI_clamp (by omega)
    have vx : vp_in (nI x) 6 := vp_in_nI hx6 (by omega)
    refine br_f (nI_ge (by omega) (by omega)) ⟨vp_in_nI (by omega) (by omega), nm_r e0 ⟨vx, ?_⟩⟩
    rw [cx, eR, eP]
    unfold ht_bg at h
    refine ht_xlater (by omega) (by omega) (pk_eq x j (fun e => ?_) (fun e => ⟨vx, nm_r (nI_add _ _) (nm_r (nI_1 _) ?_)⟩))
    · rw [if_pos e] at h; exact h
    · rw [if_neg e] at h
      refine ih m (k + 1) _ (by omega) (fun i hi => ?_) (fun i hi => h6 (i + 1) (Nat.succ_lt_succ hi)) (by omega) (by omega) ((List.mem_cons.mp hjm).resolve_left (fun z => e z.symm)) h
      have := ho (i + 1) (Nat.succ_lt_succ hi)
      rw [show k + 1 + i = k + (i + 1) by omega]
      exact this
