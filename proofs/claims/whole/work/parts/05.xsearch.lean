/-! X: the search over all orders -/
def ht_PR (a : Nat → Int32) (s : Nat) : Prop := ∀ j, j < 6 → a j = if s.testBit j = true then 1 else 0
theorem ht_el_t {s j : Nat} (h : s.testBit j = true) : ht_el s (j + 1) = ht_el s j ++ [j] := by
  unfold ht_el; rw [List.range_succ, List.filter_append]; simp [h]
theorem ht_el_f {s j : Nat} (h : ¬ s.testBit j = true) : ht_el s (j + 1) = ht_el s j := by
  unfold ht_el; rw [List.range_succ, List.filter_append]; simp [h]
theorem ht_el_len (s j : Nat) : (ht_el s j).length ≤ j := by
  have := List.length_filter_le (fun i => s.testBit i) (List.range j)
  rw [List.length_range] at this
  exact this
theorem ht_at_app (l : List Nat) (x i : Nat) (h : i < l.length) : ht_at (l ++ [x]) i = ht_at l i := by
  unfold ht_at
  rw [List.getD_eq_getElem?_getD, List.getD_eq_getElem?_getD, List.getElem?_append_left h]
theorem ht_at_app' (l : List Nat) (x : Nat) : ht_at (l ++ [x]) l.length = x := by
  unfold ht_at
  rw [List.getD_eq_getElem?_getD, List.getElem?_append_right (Nat.le_refl _), Nat.sub_self]
  rfl
theorem ht_OA_push {o : Nat → Int32} {l : List Nat} {x : Nat} (h : ht_OA o l) : ht_OA (upd o l.length (nI x)) (l ++ [x]) := by
  intro i hi
  rw [List.length_append] at hi
  have hi' : i < l.length + 1 := hi
  by_cases e : i = l.length
  · subst e; rw [pk_us, ht_at_app']
  · rw [pk_un e, ht_at_app _ _ _ (by omega)]; exact h i (by omega)
theorem ht_PRz {a : Nat → Int32} {s j : Nat} (hA : ht_PR a s) (hj : j < 6) : a j = 0 ↔ ¬ s.testBit j = true := by
  rw [hA j hj]
  by_cases h : s.testBit j = true
  · rw [if_pos h]; exact ⟨fun z => absurd z (by decide), fun z => absurd h z⟩
  · rw [if_neg h]; exact ⟨fun _ => h, fun _ => rfl⟩
theorem ht_xstart {post : SX → Prop} {s n : Nat} {a r p q b w : Nat → Int32} (hA : ht_PR a s) : ∀ (d j : Nat) (o : Nat → Int32), j + d = 6 → ht_OA o (ht_el s j) → (∀ o', ht_OA o' (ht_el s 6) → post (nI n, a, r, p, q, o', b, w)) → wX_startOrders_4 post (nI n) (d + 1) (nI (ht_el s j).length) (nI j) a r p q o b w := by
  intro d
  induction d with
  | zero =>
    intro j o hj ho h
    have e : j = 6 := by omega
    subst e
    exact br_t (by decide) (h o ho)
  | succ d ih =>
    intro j o hj ho h
    have hl := ht_el_len s j
    have cj : (nI j).toNatClampNeg = j := nI_clamp (by omega)
    refine br_f (nI_ge (b := 6) (by omega) (by decide)) ⟨vp_in_nI (by omega) (by omega), ?_⟩
    rw [cj]
    by_cases z : s.testBit j = true
    · refine br_f (fun z' => (ht_PRz hA (by omega)).mp z' z) ⟨vp_in_nI (by omega) (by omega), nm_r (e' := upd o (ht_el s j).length (nI j)) (by rw [nI_clamp (by omega)]) (nm_r (nI_1 _) (nm_r (nI_1 _) ?_))⟩
      have := ih (j + 1) (upd o (ht_el s j).length (nI j)) (by omega) (by rw [ht_el_t z]; exact ht_OA_push ho) h
      rw [ht_el_t z, List.length_append] at this
      exact this
    · refine br_t ((ht_PRz hA (by omega)).mpr z) (nm_r (nI_1 _) ?_)
      have := ih (j + 1) o (by omega) (by rw [ht_el_f z]; exact ho) h
      rw [ht_el_f z] at this
      exact this
theorem ht_xstartOrders {post : SX → Prop} {s n : Nat} {a r p q o b w : Nat → Int32} (hA : ht_PR a s) (h : ∀ o', ht_OA o' (ht_el s 6) → post (nI n, a, r, p, q, o', b, w)) : wpX_startOrders post (nI n, a, r, p, q, o, b, w) :=
  ⟨6 + 1, ht_xstart hA 6 0 o rfl (fun i hi => absurd hi (Nat.not_lt_zero _)) h⟩
theorem ht_ln_le {R P Q : Nat → Nat} (hB : ht_bd R P Q) : ∀ (l : List Nat) (k t g : Nat), (∀ i, i < l.length → ht_at l i < 6) → t ≤ 400 * k → g ≤ 400 * k + 200 → ht_ln R P Q l t g ≤ 400 * (k + l.length) + 200 := by
  intro l
  induction l with
  | nil => intro k t g _ _ hg; exact hg
  | cons x l ih =>
    intro k t g h6 ht hg
    obtain ⟨bR, bP, bQ⟩ := hB x (h6 0 (Nat.succ_pos _))
    have := ih (k + 1) (max t (R x) + P x) (max g (max t (R x) + P x + Q x)) (fun i hi => h6 (i + 1) (Nat.succ_lt_succ hi)) (by omega) (by omega)
    show ht_ln R P Q l _ _ ≤ 400 * (k + (l.length + 1)) + 200
    rw [show k + (l.length + 1) = k + 1 + l.length by omega]
    exact this
def ht_L (R P Q : Nat → Nat) (s c : Nat) : Nat := ht_ln R P Q (ht_or s c) 0 0
theorem ht_or_B6 {s c : Nat} (hs : s < 64) (hc : c < ht_N s) : ht_B6 (ht_or s c) := fun i hi => ((ht_good hs hc).1 _ (ht_at_mem _ _ hi)).1
theorem ht_L_le {R P Q : Nat → Nat} (hB : ht_bd R P Q) {s c : Nat} (hs : s < 64) (hc : c < ht_N s) : ht_L R P Q s c ≤ 2600 := by
  have := ht_ln_le hB (ht_or s c) 0 0 0 (ht_or_B6 hs hc) (by omega) (by omega)
  have h6 := (ht_nums hs).2.2.2
  rw [ht_or_len] at this
  unfold ht_L
  omega
def ht_ms (W : Nat → Bool) (L : Nat → Nat) (g0 : Nat) : Nat → Nat
  | 0 => g0
  | c + 1 => if W c = true ∧ L c < ht_ms W L g0 c then L c else ht_ms W L g0 c
def ht_am (W : Nat → Bool) (L : Nat → Nat) (g0 : Nat) : Nat → Nat
  | 0 => 0
  | c + 1 => if W c = true ∧ L c < ht_ms W L g0 c then c else ht_am W L g0 c
theorem ht_ms_le (W : Nat → Bool) (L : Nat → Nat) (g0 : Nat) : ∀ c, ht_ms W L g0 c ≤ g0 := by
  intro c
  induction c with
  | zero => exact Nat.le_refl _
  | succ c ih =>
    unfold ht_ms
    split
    · omega
    · exact ih
def ht_BO (b : Nat → Int32) (l : List Nat) : Prop := ht_OA b l
theorem ht_xloop {post : Int32 → SX → Prop} {s : Nat} {a r p q w : Nat → Int32} {R P Q : Nat → Nat} {x1 x2 x3 : Int32} {wl : List Nat → Bool} (hs : s < 64) (hD : ht_D r p q R P Q) (hB : ht_bd R P Q)
    (hW : ∀ (o b : Nat → Int32) (l : List Nat) (ps : Int32 → Prop), ht_OA o l → ht_B6 l → l.length = ht_cn s → ps (if wl l = true then 1 else 0) → wpX_isWanted ps (nI (ht_cn s), a, r, p, q, o, b, w) x1 x2 x3)
    (K : ∀ o' b', (ht_ms (fun c => wl (ht_or s c)) (ht_L R P Q s) 1000000 (ht_N s) < 1000000 → ht_OA b' (ht_or s (ht_am (fun c => wl (ht_or s c)) (ht_L R P Q s) 1000000 (ht_N s)))) → post (nI (ht_ms (fun c => wl (ht_or s c)) (ht_L R P Q s) 1000000 (ht_N s))) (nI (ht_cn s), a, r, p, q, o', b', w)) :
    ∀ (d c : Nat) (o b : Nat → Int32), c + d + 1 = ht_N s → ht_OA o (ht_or s c) → (ht_ms (fun c => wl (ht_or s c)) (ht_L R P Q s) 1000000 c < 1000000 → ht_OA b (ht_or s (ht_am (fun c => wl (ht_or s c)) (ht_L R P Q s) 1000000 c))) → wX_search_14 post x1 x2 x3 (d + 2) (nI (ht_ms (fun c => wl (ht_or s c)) (ht_L R P Q s) 1000000 c)) 1 (nI c) (nI (ht_cn s)) a r p q o b w := by
  intro d
  induction d with
  | zero =>
    intro c o b hc ho hb
    obtain ⟨-, hN0, hN7, hn⟩ := ht_nums hs
    have h6 := ht_or_B6 hs (show c < ht_N s by omega)
    have hlen := ht_or_len s c
    have hm := ht_ms_le (fun c => wl (ht_or s c)) (ht_L R P Q s) 1000000 c
    have hL := ht_L_le hB hs (show c < ht_N s by omega)
    have tail : ∀ (b : Nat → Int32) (g : Nat), g = ht_ms (fun c => wl (ht_or s c)) (ht_L R P Q s) 1000000 (c + 1) → (g < 1000000 → ht_OA b (ht_or s (ht_am (fun c => wl (ht_or s c)) (ht_L R P Q s) 1000000 (c + 1)))) → wX_search_58 post (wX_search_14 post x1 x2 x3 1) x1 x2 x3 (nI g) (nI c) (nI (ht_cn s)) a r p q o b w := by
      intro b g eg hb
      refine ht_xnext ho h6 hlen hn (fun e => ?_) (fun l' o' e ho' => ?_)
      · have ec : c + 1 = ht_N s := by omega
        refine nm_r (nI_1 _) ?_
        rw [eg, ec]
        rw [eg, ec] at hb
        exact br_c (fun _ => K _ _ hb) (fun _ => br_t rfl (K _ _ hb))
      · exfalso
        rcases ht_next hs (show c < ht_N s by omega) with ⟨_, h⟩ | ⟨h, _⟩
        · omega
        · rw [h] at e; exact nomatch e
    refine br_f (nI_ge (b := 720) (by omega) (by decide)) (br_f (by decide) (hW o b (ht_or s c) _ ho h6 hlen ?_))
    by_cases hw : wl (ht_or s c) = true
    · rw [if_pos hw]
      refine br_f (by decide) (ht_xorderLength hD hB hn hlen ho h6 (pk_le _ (ht_L R P Q s c) (fun z => ?_) (fun z => ?_)))
      · have e1 : ht_ms (fun c => wl (ht_or s c)) (ht_L R P Q s) 1000000 (c + 1) = ht_ms (fun c => wl (ht_or s c)) (ht_L R P Q s) 1000000 c := by
          conv => lhs; unfold ht_ms
          exact if_neg (fun h => by have := h.2; omega)
        have e2 : ht_am (fun c => wl (ht_or s c)) (ht_L R P Q s) 1000000 (c + 1) = ht_am (fun c => wl (ht_or s c)) (ht_L R P Q s) 1000000 c := by
          conv => lhs; unfold ht_am
          exact if_neg (fun h => by have := h.2; omega)
        exact tail b _ e1.symm (by rw [e2]; exact hb)
      · have e1 : ht_ms (fun c => wl (ht_or s c)) (ht_L R P Q s) 1000000 (c + 1) = ht_L R P Q s c := by
          conv => lhs; unfold ht_ms
          exact if_pos ⟨hw, z⟩
        have e2 : ht_am (fun c => wl (ht_or s c)) (ht_L R P Q s) 1000000 (c + 1) = c := by
          conv => lhs; unfold ht_am
          exact if_pos ⟨hw, z⟩
        refine ht_xkeepOrder hn (fun b' hb' => tail b' (ht_L R P Q s c) e1.symm (fun _ => ?_))
        rw [e2]
        intro i hi
        rw [hb' i (by omega)]
        exact ho i hi
    · rw [if_neg hw]
      have e1 : ht_ms (fun c => wl (ht_or s c)) (ht_L R P Q s) 1000000 (c + 1) = ht_ms (fun c => wl (ht_or s c)) (ht_L R P Q s) 1000000 c := by
        conv => lhs; unfold ht_ms
        exact if_neg (fun h => hw h.1)
      have e2 : ht_am (fun c => wl (ht_or s c)) (ht_L R P Q s) 1000000 (c + 1) = ht_am (fun c => wl (ht_or s c)) (ht_L R P Q s) 1000000 c := by
        conv => lhs; unfold ht_am
        exact if_neg (fun h => hw h.1)
      exact br_t rfl (tail b _ e1.symm (by rw [e2]; exact hb))
  | succ d ih =>
    intro c o b hc ho hb
    obtain ⟨-, hN0, hN7, hn⟩ := ht_nums hs
    have h6 := ht_or_B6 hs (show c < ht_N s by omega)
    have hlen := ht_or_len s c
    have hm := ht_ms_le (fun c => wl (ht_or s c)) (ht_L R P Q s) 1000000 c
    have hL := ht_L_le hB hs (show c < ht_N s by omega)
    have tail : ∀ (b : Nat → Int32) (g : Nat), g = ht_ms (fun c => wl (ht_or s c)) (ht_L R P Q s) 1000000 (c + 1) → (g < 1000000 → ht_OA b (ht_or s (ht_am (fun c => wl (ht_or s c)) (ht_L R P Q s) 1000000 (c + 1)))) → wX_search_58 post (wX_search_14 post x1 x2 x3 (d + 2)) x1 x2 x3 (nI g) (nI c) (nI (ht_cn s)) a r p q o b w := by
      intro b g eg hb
      refine ht_xnext ho h6 hlen hn (fun e => ?_) (fun l' o' e ho' => ?_)
      · exfalso
        rcases ht_next hs (show c < ht_N s by omega) with ⟨h, _⟩ | ⟨_, h⟩
        · rw [h] at e; exact nomatch e
        · omega
      · rcases ht_next hs (show c < ht_N s by omega) with ⟨h, _⟩ | ⟨_, h⟩
        · rw [h] at e
          cases e
          refine nm_r (nI_1 _) ?_
          rw [eg]
          rw [eg] at hb
          exact ih (c + 1) o' b (by omega) ho' hb
        · omega
    refine br_f (nI_ge (b := 720) (by omega) (by decide)) (br_f (by decide) (hW o b (ht_or s c) _ ho h6 hlen ?_))
    by_cases hw : wl (ht_or s c) = true
    · rw [if_pos hw]
      refine br_f (by decide) (ht_xorderLength hD hB hn hlen ho h6 (pk_le _ (ht_L R P Q s c) (fun z => ?_) (fun z => ?_)))
      · have e1 : ht_ms (fun c => wl (ht_or s c)) (ht_L R P Q s) 1000000 (c + 1) = ht_ms (fun c => wl (ht_or s c)) (ht_L R P Q s) 1000000 c := by
          conv => lhs; unfold ht_ms
          exact if_neg (fun h => by have := h.2; omega)
        have e2 : ht_am (fun c => wl (ht_or s c)) (ht_L R P Q s) 1000000 (c + 1) = ht_am (fun c => wl (ht_or s c)) (ht_L R P Q s) 1000000 c := by
          conv => lhs; unfold ht_am
          exact if_neg (fun h => by have := h.2; omega)
        exact tail b _ e1.symm (by rw [e2]; exact hb)
      · have e1 : ht_ms (fun c => wl (ht_or s c)) (ht_L R P Q s) 1000000 (c + 1) = ht_L R P Q s c := by
          conv => lhs; unfold ht_ms
          exact if_pos ⟨hw, z⟩
        have e2 : ht_am (fun c => wl (ht_or s c)) (ht_L R P Q s) 1000000 (c + 1) = c := by
          conv => lhs; unfold ht_am
          exact if_pos ⟨hw, z⟩
        refine ht_xkeepOrder hn (fun b' hb' => tail b' (ht_L R P Q s c) e1.symm (fun _ => ?_))
        rw [e2]
        intro i hi
        rw [hb' i (by omega)]
        exact ho i hi
    · rw [if_neg hw]
      have e1 : ht_ms (fun c => wl (ht_or s c)) (ht_L R P Q s) 1000000 (c + 1) = ht_ms (fun c => wl (ht_or s c)) (ht_L R P Q s) 1000000 c := by
        conv => lhs; unfold ht_ms
        exact if_neg (fun h => hw h.1)
      have e2 : ht_am (fun c => wl (ht_or s c)) (ht_L R P Q s) 1000000 (c + 1) = ht_am (fun c => wl (ht_or s c)) (ht_L R P Q s) 1000000 c := by
        conv => lhs; unfold ht_am
        exact if_neg (fun h => hw h.1)
      exact br_t rfl (tail b _ e1.symm (by rw [e2]; exact hb))
theorem ht_xsearch {post : Int32 → SX → Prop} {s : Nat} {a r p q o b w : Nat → Int32} {R P Q : Nat → Nat} {x1 x2 x3 : Int32} {wl : List Nat → Bool} (hs : s < 64) (hA : ht_PR a s) (hD : ht_D r p q R P Q) (hB : ht_bd R P Q)
    (hW : ∀ (o b : Nat → Int32) (l : List Nat) (ps : Int32 → Prop), ht_OA o l → ht_B6 l → l.length = ht_cn s → ps (if wl l = true then 1 else 0) → wpX_isWanted ps (nI (ht_cn s), a, r, p, q, o, b, w) x1 x2 x3)
    (K : ∀ o' b', (ht_ms (fun c => wl (ht_or s c)) (ht_L R P Q s) 1000000 (ht_N s) < 1000000 → ht_OA b' (ht_or s (ht_am (fun c => wl (ht_or s c)) (ht_L R P Q s) 1000000 (ht_N s)))) → post (nI (ht_ms (fun c => wl (ht_or s c)) (ht_L R P Q s) 1000000 (ht_N s))) (nI (ht_cn s), a, r, p, q, o', b', w)) :
    wpX_search post (nI (ht_cn s), a, r, p, q, o, b, w) x1 x2 x3 := by
  obtain ⟨h0, hN0, hN7, hn⟩ := ht_nums hs
  refine ht_xstartOrders hA (fun o' ho' => ⟨ht_N s - 1 + 2, ?_⟩)
  rw [← h0] at ho'
  exact ht_xloop hs hD hB hW K (ht_N s - 1) 0 o' b (by omega) ho' (fun h => absurd h (by show ¬ (1000000 < 1000000); omega))
