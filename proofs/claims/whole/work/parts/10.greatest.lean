/-! tailFor and releaseFor: halving steps against the walk from above -/
def ht_up (f : Nat → Nat) (j v : Nat) : Nat → Nat := fun i => if i = j then v else f i
theorem ht_uu (f : Nat → Int32) (k : Nat) (x y : Int32) : upd (upd f k x) k y = upd f k y := by
  funext i
  unfold upd
  by_cases e : i = k
  · rw [if_pos e, if_pos e]
  · rw [if_neg e, if_neg e, if_neg e]
theorem ht_u0 (f : Nat → Int32) (k : Nat) : upd f k (f k) = f := by
  funext i
  unfold upd
  by_cases e : i = k
  · rw [if_pos e, e]
  · rw [if_neg e]
theorem ht_ln_g (R P Q : Nat → Nat) : ∀ (l : List Nat) (t g : Nat), g ≤ ht_ln R P Q l t g := by
  intro l
  induction l with
  | nil => intro t g; exact Nat.le_refl _
  | cons x l ih =>
    intro t g
    have := ih (max t (R x) + P x) (max g (max t (R x) + P x + Q x))
    show g ≤ ht_ln R P Q l _ _
    omega
theorem ht_ln_mem (R P Q : Nat → Nat) (j : Nat) : ∀ (l : List Nat) (t g : Nat), j ∈ l → R j ≤ ht_ln R P Q l t g ∧ Q j ≤ ht_ln R P Q l t g := by
  intro l
  induction l with
  | nil => intro t g h; exact absurd h List.not_mem_nil
  | cons x l ih =>
    intro t g h
    show R j ≤ ht_ln R P Q l _ _ ∧ Q j ≤ ht_ln R P Q l _ _
    by_cases e : x = j
    · subst e
      have := ht_ln_g R P Q l (max t (R x) + P x) (max g (max t (R x) + P x + Q x))
      omega
    · exact ih _ _ ((List.mem_cons.mp h).resolve_left (fun z => e z.symm))
theorem ht_ln_mono {R P Q R' Q' : Nat → Nat} (hR : ∀ i, R i ≤ R' i) (hQ : ∀ i, Q i ≤ Q' i) : ∀ (l : List Nat) (t g t' g' : Nat), t ≤ t' → g ≤ g' → ht_ln R P Q l t g ≤ ht_ln R' P Q' l t' g' := by
  intro l
  induction l with
  | nil => intro t g t' g' _ h; exact h
  | cons x l ih =>
    intro t g t' g' h1 h2
    have a := hR x
    have b := hQ x
    exact ih _ _ _ _ (by omega) (by omega)
def ht_M (R P Q : Nat → Nat) (s : Nat) : Nat := ht_ms (fun _ => true) (ht_L R P Q s) 1000000 (ht_N s)
theorem ht_M_att {R P Q : Nat → Nat} {s : Nat} (hs : s < 64) (hB : ht_bd R P Q) : ∃ c, c < ht_N s ∧ ht_L R P Q s c = ht_M R P Q s ∧ ∀ i, i < ht_N s → ht_M R P Q s ≤ ht_L R P Q s i := by
  obtain ⟨_, b1, b2, b3⟩ := ht_ms_att (W := fun _ => true) (L := ht_L R P Q s) (g0 := 1000000) (N := ht_N s) (fun c hc => by have := ht_L_le hB hs hc; omega) ⟨0, (ht_nums hs).2.1, rfl⟩
  exact ⟨_, b1, b3, fun i hi => (ht_ms_spec (fun _ => true) (ht_L R P Q s) 1000000 (ht_N s)).2.1 i hi rfl⟩
theorem ht_M_le {R P Q : Nat → Nat} {s : Nat} (hs : s < 64) (hB : ht_bd R P Q) : ht_M R P Q s ≤ 2600 := by
  obtain ⟨c, hc, e, _⟩ := ht_M_att hs hB
  rw [← e]
  exact ht_L_le hB hs hc
theorem ht_M_mono {R P Q R' Q' : Nat → Nat} {s : Nat} (hs : s < 64) (hB : ht_bd R P Q) (hB' : ht_bd R' P Q') (hR : ∀ i, R i ≤ R' i) (hQ : ∀ i, Q i ≤ Q' i) : ht_M R P Q s ≤ ht_M R' P Q' s := by
  obtain ⟨c, hc, e, _⟩ := ht_M_att hs hB'
  obtain ⟨_, _, _, h⟩ := ht_M_att hs hB
  rw [← e]
  exact Nat.le_trans (h c hc) (ht_ln_mono hR hQ _ _ _ _ _ (Nat.le_refl _) (Nat.le_refl _))
theorem ht_M_mem {R P Q : Nat → Nat} {s j : Nat} (hs : s < 64) (hB : ht_bd R P Q) (hj : j < 6) (ht : s.testBit j = true) : R j ≤ ht_M R P Q s ∧ Q j ≤ ht_M R P Q s := by
  obtain ⟨c, hc, e, _⟩ := ht_M_att hs hB
  rw [← e]
  exact ht_ln_mem R P Q j _ 0 0 ((ht_good hs hc).2.2 j hj ht)
theorem ht_ltm {x : Int32} {a b : Nat} (h : a ≤ b) (hb : b < 2 ^ 31) (hx : x < nI a) : x < nI b := by
  have h1 : nI a ≤ nI b := nI_le h hb
  rw [Int32.lt_iff_toInt_lt] at hx ⊢
  rw [Int32.le_iff_toInt_le] at h1
  omega
def ht_gI (G : Nat) : Int32 := if G = 0 then -1 else nI (G - 1)
def ht_st : Nat → Nat
  | 0 => 0
  | i + 1 => 2 ^ i
theorem ht_half : ∀ i, i < 8 → nI (2 ^ i) / 2 = nI (ht_st i) := by decide +kernel
theorem ht_gI_add {G x : Nat} (hx : 0 < x) : ht_gI G + nI x = nI (G + x - 1) := by
  unfold ht_gI
  by_cases e : G = 0
  · rw [if_pos e, e]
    obtain ⟨y, rfl⟩ : ∃ y, x = y + 1 := ⟨x - 1, by omega⟩
    rw [Int32.add_comm, pk_m1]
    exact congrArg nI (by omega)
  · rw [if_neg e, nI_add]
    exact congrArg nI (by omega)
theorem ht_gI_pos {G : Nat} (h : 0 < G) : ht_gI G = nI (G - 1) := if_neg (by omega)
theorem ht_pw : ∀ i, i < 8 → 0 < 2 ^ i ∧ 2 ^ i ≤ 128 := by decide
theorem ht_xg_tail {post : Int32 → SX → Prop} {s j : Nat} {lim : Int32} {a r p q w : Nat → Int32} {R P Q : Nat → Nat} {ok : Nat → Prop} (hs : s < 64) (hA : ht_PR a s) (hj : j < 6)
    (hD : ∀ v, v ≤ 200 → ht_D r p (upd q j (nI v)) R P (ht_up Q j v)) (hB : ∀ v, v ≤ 200 → ht_bd R P (ht_up Q j v))
    (hok : ∀ v, v ≤ 200 → (ok v ↔ ¬ lim < nI (ht_M R P (ht_up Q j v) s))) (hdn : ∀ u v, u ≤ v → v ≤ 200 → ok v → ok u)
    (K : ∀ G o b, (∀ u, u < G → u ≤ 200 ∧ ok u) → (∀ u, G ≤ u → ¬ (u ≤ 200 ∧ ok u)) → post (ht_gI G) (nI (ht_cn s), a, r, p, q, o, b, w)) :
    ∀ (i G : Nat) (z : Int32) (o b : Nat → Int32), i ≤ 8 → (∀ u, u < G → u ≤ 200 ∧ ok u) → (∀ u, G + 2 ^ i - 1 ≤ u → ¬ (u ≤ 200 ∧ ok u)) → wX_greatestFitting__tail_13 post (nI j) lim (q j) (i + 1) (ht_gI G) (nI (ht_st i)) (nI (ht_cn s)) a r p (upd q j z) o b w := by
  have cj : (nI j).toNatClampNeg = j := nI_clamp (by omega)
  have vj : vp_in (nI j) 6 := vp_in_nI hj (by omega)
  intro i
  induction i with
  | zero =>
    intro G z o b hi h1 h2
    refine br_t (by decide) ⟨vj, nm_r (e' := q) ?_ (K G o b h1 (fun u hu => h2 u (by omega)))⟩
    rw [cj, ht_uu, ht_u0]
  | succ i ih =>
    intro G z o b hi h1 h2
    obtain ⟨p1, p2⟩ := ht_pw i (by omega)
    have hG : G ≤ 201 := by
      rcases Nat.eq_zero_or_pos G with e | e
      · omega
      · have := (h1 (G - 1) (by omega)).1; omega
    have e2 : 2 ^ (i + 1) = 2 ^ i + 2 ^ i := by rw [Nat.pow_succ]; omega
    have hst : ht_st (i + 1) = 2 ^ i := rfl
    have hd : nI (2 ^ i) / 2 = nI (ht_st i) := ht_half i (by omega)
    rw [hst]
    refine br_f (nI_nle p1 (by omega)) (nm_r (ht_gI_add p1) (pk_lt 200 (G + 2 ^ i - 1) (fun y => ⟨by decide, nm_r hd (ih G z o b (by omega) h1 (fun u hu h => ?_))⟩) (fun y => ⟨vj, nm_r (e' := upd q j (nI (G + 2 ^ i - 1))) (by rw [cj, ht_uu]) ?_⟩)))
    · omega
    · refine ht_xsearch (wl := fun _ => true) hs hA (hD _ y) (hB _ y) (fun o b l ps _ _ _ h => ht_xw0 h) (fun o' b' _ => ?_)
      have hk := hok _ y
      refine br_c (fun x => ⟨by decide, nm_r hd (ih G _ o' b' (by omega) h1 (fun u hu h => ?_))⟩) (fun x => ⟨by decide, nm_r hd ?_⟩)
      · exact (hk.mp (hdn _ u hu h.1 h.2)) x
      · have hv := hk.mpr x
        have := ih (G + 2 ^ i) (nI (G + 2 ^ i - 1)) o' b' (by omega) (fun u hu => ?_) (fun u hu => h2 u (by omega))
        · rw [ht_gI_pos (by omega)] at this
          exact this
        · exact ⟨by omega, hdn u _ (by omega) y hv⟩
theorem ht_xG_tail {post : Int32 → SX → Prop} {s j : Nat} {lim : Int32} {a r p q o b w : Nat → Int32} {R P Q : Nat → Nat} {ok : Nat → Prop} (hs : s < 64) (hA : ht_PR a s) (hj : j < 6)
    (hD : ∀ v, v ≤ 200 → ht_D r p (upd q j (nI v)) R P (ht_up Q j v)) (hB : ∀ v, v ≤ 200 → ht_bd R P (ht_up Q j v))
    (hok : ∀ v, v ≤ 200 → (ok v ↔ ¬ lim < nI (ht_M R P (ht_up Q j v) s))) (hdn : ∀ u v, u ≤ v → v ≤ 200 → ok v → ok u)
    (K : ∀ G o b, (∀ u, u < G → u ≤ 200 ∧ ok u) → (∀ u, G ≤ u → ¬ (u ≤ 200 ∧ ok u)) → post (ht_gI G) (nI (ht_cn s), a, r, p, q, o, b, w)) : wpX_greatestFitting__tail post (nI (ht_cn s), a, r, p, q, o, b, w) (nI j) lim := by
  have cj : (nI j).toNatClampNeg = j := nI_clamp (by omega)
  have vj : vp_in (nI j) 6 := vp_in_nI hj (by omega)
  have := ht_xg_tail (w := w) hs hA hj hD hB hok hdn K 8 0 (q j) o b (by omega) (fun u hu => absurd hu (Nat.not_lt_zero _)) (fun u hu h => by
    have h9 : (2 : Nat) ^ 8 = 256 := rfl
    omega)
  rw [ht_u0] at this
  exact ⟨vj, nm_r (by rw [cj]) ⟨9, this⟩⟩
theorem ht_xg_release {post : Int32 → SX → Prop} {s j : Nat} {lim : Int32} {a r p q w : Nat → Int32} {R P Q : Nat → Nat} {ok : Nat → Prop} (hs : s < 64) (hA : ht_PR a s) (hj : j < 6)
    (hD : ∀ v, v ≤ 200 → ht_D (upd r j (nI v)) p q (ht_up R j v) P Q) (hB : ∀ v, v ≤ 200 → ht_bd (ht_up R j v) P Q)
    (hok : ∀ v, v ≤ 200 → (ok v ↔ ¬ lim < nI (ht_M (ht_up R j v) P Q s))) (hdn : ∀ u v, u ≤ v → v ≤ 200 → ok v → ok u)
    (K : ∀ G o b, (∀ u, u < G → u ≤ 200 ∧ ok u) → (∀ u, G ≤ u → ¬ (u ≤ 200 ∧ ok u)) → post (ht_gI G) (nI (ht_cn s), a, r, p, q, o, b, w)) :
    ∀ (i G : Nat) (z : Int32) (o b : Nat → Int32), i ≤ 8 → (∀ u, u < G → u ≤ 200 ∧ ok u) → (∀ u, G + 2 ^ i - 1 ≤ u → ¬ (u ≤ 200 ∧ ok u)) → wX_greatestFitting__release_13 post (nI j) lim (r j) (i + 1) (ht_gI G) (nI (ht_st i)) (nI (ht_cn s)) a (upd r j z) p q o b w := by
  have cj : (nI j).toNatClampNeg = j := nI_clamp (by omega)
  have vj : vp_in (nI j) 6 := vp_in_nI hj (by omega)
  intro i
  induction i with
  | zero =>
    intro G z o b hi h1 h2
    refine br_t (by decide) ⟨vj, nm_r (e' := r) ?_ (K G o b h1 (fun u hu => h2 u (by omega)))⟩
    rw [cj, ht_uu, ht_u0]
  | succ i ih =>
    intro G z o b hi h1 h2
    obtain ⟨p1, p2⟩ := ht_pw i (by omega)
    have hG : G ≤ 201 := by
      rcases Nat.eq_zero_or_pos G with e | e
      · omega
      · have := (h1 (G - 1) (by omega)).1; omega
    have e2 : 2 ^ (i + 1) = 2 ^ i + 2 ^ i := by rw [Nat.pow_succ]; omega
    have hst : ht_st (i + 1) = 2 ^ i := rfl
    have hd : nI (2 ^ i) / 2 = nI (ht_st i) := ht_half i (by omega)
    rw [hst]
    refine br_f (nI_nle p1 (by omega)) (nm_r (ht_gI_add p1) (pk_lt 200 (G + 2 ^ i - 1) (fun y => ⟨by decide, nm_r hd (ih G z o b (by omega) h1 (fun u hu h => ?_))⟩) (fun y => ⟨vj, nm_r (e' := upd r j (nI (G + 2 ^ i - 1))) (by rw [cj, ht_uu]) ?_⟩)))
    · omega
    · refine ht_xsearch (wl := fun _ => true) hs hA (hD _ y) (hB _ y) (fun o b l ps _ _ _ h => ht_xw0 h) (fun o' b' _ => ?_)
      have hk := hok _ y
      refine br_c (fun x => ⟨by decide, nm_r hd (ih G _ o' b' (by omega) h1 (fun u hu h => ?_))⟩) (fun x => ⟨by decide, nm_r hd ?_⟩)
      · exact (hk.mp (hdn _ u hu h.1 h.2)) x
      · have hv := hk.mpr x
        have := ih (G + 2 ^ i) (nI (G + 2 ^ i - 1)) o' b' (by omega) (fun u hu => ?_) (fun u hu => h2 u (by omega))
        · rw [ht_gI_pos (by omega)] at this
          exact this
        · exact ⟨by omega, hdn u _ (by omega) y hv⟩
theorem ht_xG_release {post : Int32 → SX → Prop} {s j : Nat} {lim : Int32} {a r p q o b w : Nat → Int32} {R P Q : Nat → Nat} {ok : Nat → Prop} (hs : s < 64) (hA : ht_PR a s) (hj : j < 6)
    (hD : ∀ v, v ≤ 200 → ht_D (upd r j (nI v)) p q (ht_up R j v) P Q) (hB : ∀ v, v ≤ 200 → ht_bd (ht_up R j v) P Q)
    (hok : ∀ v, v ≤ 200 → (ok v ↔ ¬ lim < nI (ht_M (ht_up R j v) P Q s))) (hdn : ∀ u v, u ≤ v → v ≤ 200 → ok v → ok u)
    (K : ∀ G o b, (∀ u, u < G → u ≤ 200 ∧ ok u) → (∀ u, G ≤ u → ¬ (u ≤ 200 ∧ ok u)) → post (ht_gI G) (nI (ht_cn s), a, r, p, q, o, b, w)) : wpX_greatestFitting__release post (nI (ht_cn s), a, r, p, q, o, b, w) (nI j) lim := by
  have cj : (nI j).toNatClampNeg = j := nI_clamp (by omega)
  have vj : vp_in (nI j) 6 := vp_in_nI hj (by omega)
  have := ht_xg_release (w := w) hs hA hj hD hB hok hdn K 8 0 (r j) o b (by omega) (fun u hu => absurd hu (Nat.not_lt_zero _)) (fun u hu h => by
    have h9 : (2 : Nat) ^ 8 = 256 := rfl
    omega)
  rw [ht_u0] at this
  exact ⟨vj, nm_r (by rw [cj]) ⟨9, this⟩⟩
theorem ht_y70 {post : Int32 → SY → Prop} {J : Int32 → Int32 → Int32 → Int32 → (Nat → Int32) → (Nat → Int32) → (Nat → Int32) → (Nat → Int32) → Prop} {x1 x2 x4 lim : Int32} {s v : Nat} {a pt : Nat → Int32} {R P Q : Nat → Nat} (hs : s < 64) (hA : ht_PR a s) (hY : ht_YD pt R P Q) (hB : ht_bd R P Q) (hv : v ≤ 200)
    (K1 : ∀ l st, ¬ lim < nI (ht_M R P Q s) → J (nI v) (nI v + (-1)) (nI (ht_cn s)) (nI (ht_N s)) a pt l st) (K2 : ∀ l st, lim < nI (ht_M R P Q s) → J (-1) (nI v + (-1)) (nI (ht_cn s)) (nI (ht_N s)) a pt l st) :
    ∀ (d c : Nat) (l st : Nat → Int32), c + d = ht_N s → (∀ i, i < c → lim < nI (ht_L R P Q s i)) → wY_greatest_70 post J x1 x2 lim x4 (nI v) (d + 2) (-1) (nI c) (nI (ht_cn s)) (nI (ht_N s)) a pt l st := by
  obtain ⟨-, hN0, hN7, hn⟩ := ht_nums hs
  obtain ⟨c0, hc0, ec0, hmin⟩ := ht_M_att hs hB
  intro d
  induction d with
  | zero =>
    intro c l st hc h
    refine br_t (nI_le (by omega) (by omega)) (nm_e (K2 l st ?_))
    rw [← ec0]
    exact h c0 (by omega)
  | succ d ih =>
    intro c l st hc h
    have hL := ht_L_le hB hs (show c < ht_N s by omega)
    refine br_f (nI_ge (by omega) (by omega)) (br_f (nI_ge (b := 720) (by omega) (by decide)) (br_f (by decide) (ht_yspell hs hA hY hB (by omega) ?_)))
    refine br_c (fun y => nm_r (nI_1 _) (ih (c + 1) _ _ (by omega) (fun i hi => ?_))) (fun y => nm_r (nI_1 _) ?_)
    · by_cases e : i = c
      · subst e; exact y
      · exact h i (by omega)
    · have hk : ¬ lim < nI (ht_M R P Q s) := fun z => y (ht_ltm (hmin c (by omega)) (by omega) z)
      exact br_c (fun _ => nm_e (K1 _ _ hk)) (fun _ => br_c (fun _ => nm_e (K1 _ _ hk)) (fun _ => br_t (nI_pos' (by omega)) (nm_e (K1 _ _ hk))))
def ht_sp (ok : Nat → Prop) (V : Nat) (x : Int32) : Prop := (x = -1 ∧ ∀ u, u ≤ V → ¬ ok u) ∨ (∃ v, v ≤ V ∧ x = nI v ∧ ok v ∧ ∀ u, v < u → u ≤ V → ¬ ok u)
theorem ht_y45 {post : Int32 → SY → Prop} {s j wh V : Nat} {lim : Int32} {a pt : Nat → Int32} {P : Nat → Nat} {Rv Qv : Nat → Nat → Nat} {ok : Nat → Prop} (hs : s < 64) (hA : ht_PR a s) (hj : j < 6) (hw : wh ≤ 2) (hV : V ≤ 200)
    (hY : ∀ v, v ≤ 200 → ht_YD (upd pt (3 * j + wh) (nI v)) (Rv v) P (Qv v)) (hB : ∀ v, v ≤ 200 → ht_bd (Rv v) P (Qv v))
    (hok : ∀ v, v ≤ 200 → (ok v ↔ ¬ lim < nI (ht_M (Rv v) P (Qv v) s)))
    (K : ∀ x l st, ht_sp ok V x → post x (nI (ht_cn s), nI (ht_N s), a, pt, l, st)) :
    ∀ (v : Nat) (z : Int32) (l st : Nat → Int32), v ≤ V → (∀ u, v < u → u ≤ V → ¬ ok u) → wY_greatest_45 post (nI j) (nI wh) lim (pt (3 * j + wh)) (v + 2) (-1) (nI v) (nI (ht_cn s)) (nI (ht_N s)) a (upd pt (3 * j + wh) z) l st := by
  have ee : (3 : Int32) * nI j + nI wh = nI (3 * j + wh) := by rw [show (3 : Int32) * nI j = nI (3 * j) from pk_mul 3 j, nI_add]
  have ce : (nI (3 * j + wh)).toNatClampNeg = 3 * j + wh := nI_clamp (by omega)
  have ve : vp_in (nI (3 * j + wh)) 18 := vp_in_nI (by omega) (by omega)
  have fin : ∀ (x : Int32) (z : Int32) (l st : Nat → Int32), ht_sp ok V x → wY_greatest_123 post (nI j) (nI wh) (pt (3 * j + wh)) x (nI (ht_cn s)) (nI (ht_N s)) a (upd pt (3 * j + wh) z) l st := by
    intro x z l st hx
    unfold wY_greatest_123
    rw [ee, ce]
    refine ⟨ve, nm_r (e' := pt) ?_ (K x l st hx)⟩
    rw [ht_uu, ht_u0]
  intro v
  induction v with
  | zero =>
    intro z l st hv h
    refine br_f (nI_pos (by omega)) (br_f (by decide) ?_)
    rw [ee, ce, ht_uu]
    refine ⟨ve, nm_e ⟨ht_N s + 2, ht_y70 hs hA (hY 0 (by omega)) (hB 0 (by omega)) (by omega) (fun l st hk => ?_) (fun l st hk => ?_) (ht_N s) 0 l st (by omega) (fun i hi => absurd hi (Nat.not_lt_zero _))⟩⟩
    · have sp : ht_sp ok V (nI 0) := Or.inr ⟨0, hv, rfl, (hok 0 (by omega)).mpr hk, h⟩
      exact br_c (fun _ => fin _ _ _ _ sp) (fun _ => br_t (nI_pos' (by omega)) (fin _ _ _ _ sp))
    · refine br_t (by decide) (fin _ _ _ _ (Or.inl ⟨rfl, fun u hu => ?_⟩))
      by_cases e : u = 0
      · subst e; exact fun z => ((hok 0 (by omega)).mp z) hk
      · exact h u (by omega) hu
  | succ v ih =>
    intro z l st hv h
    refine br_f (nI_pos (by omega)) (br_f (by decide) ?_)
    rw [ee, ce, ht_uu]
    refine ⟨ve, nm_e ⟨ht_N s + 2, ht_y70 hs hA (hY (v + 1) (by omega)) (hB (v + 1) (by omega)) (by omega) (fun l st hk => ?_) (fun l st hk => ?_) (ht_N s) 0 l st (by omega) (fun i hi => absurd hi (Nat.not_lt_zero _))⟩⟩
    · have sp : ht_sp ok V (nI (v + 1)) := Or.inr ⟨v + 1, hv, rfl, (hok _ (by omega)).mpr hk, h⟩
      exact br_c (fun _ => fin _ _ _ _ sp) (fun _ => br_t (nI_pos' (by omega)) (fin _ _ _ _ sp))
    · rw [pk_m1]
      refine ih _ _ _ (by omega) (fun u hu hu2 => ?_)
      by_cases e : u = v + 1
      · subst e; exact fun z => ((hok _ (by omega)).mp z) hk
      · exact h u (by omega) hu2
theorem ht_sp_G {ok : Nat → Prop} {V G L : Nat} {x : Int32} (hV : V = min L 200) (hL : ∀ u, u ≤ 200 → ok u → u ≤ L) (hx : ht_sp ok V x) (h1 : ∀ u, u < G → u ≤ 200 ∧ ok u) (h2 : ∀ u, G ≤ u → ¬ (u ≤ 200 ∧ ok u)) : x = ht_gI G := by
  rcases hx with ⟨e, h⟩ | ⟨v, hv, e, hk, h⟩
  · rcases Nat.eq_zero_or_pos G with z | z
    · rw [e, z]; rfl
    · exact absurd (h1 0 z).2 (h 0 (by omega))
  · have hG : G = v + 1 := by
      rcases Nat.lt_trichotomy G (v + 1) with z | z | z
      · exact absurd ⟨by omega, hk⟩ (h2 v (by omega))
      · exact z
      · have a := h1 (v + 1) z
        have b := hL (v + 1) a.1 a.2
        exact absurd a.2 (h (v + 1) (by omega) (by omega))
    rw [e, hG]
    rfl
