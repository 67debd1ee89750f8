/-! interrupted: the walks -/
def ht_UW (w : Nat → Int32) (U : Nat → Nat) : Prop := ∀ j, j < 6 → w j = nI (U j) ∧ U j ≤ 12
def ht_ch (R Q U : Nat → Nat) (t j : Nat) (x : Int32) : Prop := (x = -1 ∧ ∀ i, i < j → 0 < U i → ¬ R i ≤ t) ∨ (∃ c, x = nI c ∧ c < j ∧ 0 < U c ∧ R c ≤ t ∧ ∀ i, i < j → 0 < U i → R i ≤ t → Q i ≤ Q c)
theorem ht_xmpL {post : Int32 → Prop} {f : Int32} {t : Nat} {a r p q o b w : Nat → Int32} {R P Q U : Nat → Nat} (hD : ht_D r p q R P Q) (hB : ht_bd R P Q) (hU : ht_UW w U) (ht : t < 1000) (K : ∀ x, ht_ch R Q U t 6 x → post x) : ∀ (d j : Nat) (x : Int32), j + d = 6 → ht_ch R Q U t j x → wX_mostPressing_4 post (nI t) f a r p q o b w (d + 1) x (nI j) := by
  intro d
  induction d with
  | zero =>
    intro j x hj hx
    have e : j = 6 := by omega
    subst e
    exact br_t (by decide) (K x hx)
  | succ d ih =>
    intro j x hj hx
    have j6 : j < 6 := by omega
    obtain ⟨eR, eP, eQ⟩ := hD j j6
    obtain ⟨bR, bP, bQ⟩ := hB j j6
    obtain ⟨eU, bU⟩ := hU j j6
    have cj : (nI j).toNatClampNeg = j := nI_clamp (by omega)
    have vj : vp_in (nI j) 6 := vp_in_nI j6 (by omega)
    refine br_f (nI_ge (b := 6) j6 (by decide)) ⟨vj, ?_⟩
    rw [cj, eR, eQ, eU]
    refine pk_le (U j) 0 (fun z => nm_r (nI_1 _) (ih (j + 1) x (by omega) ?_)) (fun z => ⟨vj, pk_lt t (R j) (fun z2 => nm_r (nI_1 _) (ih (j + 1) x (by omega) ?_)) (fun z2 => ?_)⟩)
    · rcases hx with ⟨e, h⟩ | ⟨c, e, hc, h1, h2, h3⟩
      · refine Or.inl ⟨e, fun i hi hu => ?_⟩
        by_cases ij : i = j
        · subst ij; omega
        · exact h i (by omega) hu
      · refine Or.inr ⟨c, e, by omega, h1, h2, fun i hi hu => ?_⟩
        by_cases ij : i = j
        · subst ij; omega
        · exact h3 i (by omega) hu
    · rcases hx with ⟨e, h⟩ | ⟨c, e, hc, h1, h2, h3⟩
      · refine Or.inl ⟨e, fun i hi hu => ?_⟩
        by_cases ij : i = j
        · subst ij; omega
        · exact h i (by omega) hu
      · refine Or.inr ⟨c, e, by omega, h1, h2, fun i hi hu hr => ?_⟩
        by_cases ij : i = j
        · subst ij; omega
        · exact h3 i (by omega) hu hr
    · rcases hx with ⟨e, h⟩ | ⟨c, e, hc, h1, h2, h3⟩
      · refine br_t e (nm_r (nI_1 _) (ih (j + 1) (nI j) (by omega) (Or.inr ⟨j, rfl, by omega, z, z2, fun i hi hu hr => ?_⟩)))
        by_cases ij : i = j
        · subst ij; omega
        · exact absurd hr (h i (by omega) hu)
      · subst e
        obtain ⟨eRc, ePc, eQc⟩ := hD c (by omega)
        obtain ⟨bRc, bPc, bQc⟩ := hB c (by omega)
        have cc : (nI c).toNatClampNeg = c := nI_clamp (by omega)
        refine br_f (ht_nm1 (by omega)) ⟨vj, vp_in_nI (by omega) (by omega), ?_⟩
        rw [cc, eQc]
        refine pk_le (Q j) (Q c) (fun z3 => nm_r (nI_1 _) (ih (j + 1) (nI c) (by omega) (Or.inr ⟨c, rfl, by omega, h1, h2, fun i hi hu hr => ?_⟩))) (fun z3 => nm_r (nI_1 _) (ih (j + 1) (nI j) (by omega) (Or.inr ⟨j, rfl, by omega, z, z2, fun i hi hu hr => ?_⟩)))
        · by_cases ij : i = j
          · subst ij; omega
          · exact h3 i (by omega) hu hr
        · by_cases ij : i = j
          · subst ij; omega
          · have := h3 i (by omega) hu hr; omega
theorem ht_xmp {post : Int32 → Prop} {f : Int32} {t : Nat} {a r p q o b w : Nat → Int32} {R P Q U : Nat → Nat} (hD : ht_D r p q R P Q) (hB : ht_bd R P Q) (hU : ht_UW w U) (ht : t < 1000) (K : ∀ x, ht_ch R Q U t 6 x → post x) : wpX_mostPressing post (f, a, r, p, q, o, b, w) (nI t) :=
  ⟨7, ht_xmpL hD hB hU ht K 6 0 (-1) rfl (Or.inl ⟨rfl, fun i hi => absurd hi (Nat.not_lt_zero _)⟩)⟩
theorem ht_x43 {post : Int32 → SX → Prop} {s : Nat} {f : Int32} {a r p q o b : Nat → Int32} {R P Q : Nat → Nat} (hD : ht_D r p q R P Q) (hB : ht_bd R P Q) (hM : ht_sm s R P Q) (K : ∀ g U w, g < 100000 → ht_I s R P Q U 112 g → post (nI g) (f, a, r, p, q, o, b, w)) : ∀ (d t g : Nat) (U : Nat → Nat) (w : Nat → Int32), t + d = 112 → g < 1000 → ht_UW w U → ht_I s R P Q U t g → wX_interrupted_43 post f (d + 1) (nI g) (nI t) a r p q o b w := by
  intro d
  induction d with
  | zero =>
    intro t g U w ht hg hU I
    have e : t = 112 := by omega
    subst e
    exact br_t (by decide) (K g U w (by omega) I)
  | succ d ih =>
    intro t g U w ht hg hU I
    refine br_f (nI_ge (b := 112) (by omega) (by decide)) (ht_xmp hD hB hU (by omega) (fun x hx => ?_))
    rcases hx with ⟨e, h⟩ | ⟨c, e, hc, h1, h2, h3⟩
    · exact br_t e (nm_r (nI_1 _) (ih (t + 1) g U w (by omega) hg hU (ht_Inone hM I (by omega) h)))
    · subst e
      obtain ⟨eR, eP, eQ⟩ := hD c hc
      obtain ⟨bR, bP, bQ⟩ := hB c hc
      obtain ⟨eU, bU⟩ := hU c hc
      have cc : (nI c).toNatClampNeg = c := nI_clamp (by omega)
      have vc : vp_in (nI c) 6 := vp_in_nI hc (by omega)
      have bQ' := (hM c hc).2.2.1
      refine br_f (ht_nm1 (by omega)) ⟨vc, vc, ?_⟩
      rw [cc, eU, eQ, nI_1, nI_add]
      refine nm_e ⟨vc, ht_xlater (by omega) (by omega) (nm_r rfl ?_)⟩
      refine ih (t + 1) (max g (t + 1 + Q c)) (ht_dc U c) _ (by omega) (by omega) (fun j hj => ?_) (ht_Isome hM I (by omega) hc h1 h2 h3)
      obtain ⟨eUj, bUj⟩ := hU j hj
      unfold ht_dc
      by_cases e : j = c
      · subst e
        rw [pk_us, if_pos rfl]
        exact ⟨pk_sub (b := 1) h1, by omega⟩
      · rw [pk_un e, if_neg e]
        exact ⟨eUj, bUj⟩
theorem ht_x2 {post : Int32 → SX → Prop} {s : Nat} {f : Int32} {a r p q o b : Nat → Int32} {R P Q : Nat → Nat} (hA : ht_PR a s) (hD : ht_D r p q R P Q) (hB : ht_bd R P Q) (hM : ht_sm s R P Q) (K : ∀ g U w, g < 100000 → ht_I s R P Q U 112 g → post (nI g) (f, a, r, p, q, o, b, w)) : ∀ (d j : Nat) (w : Nat → Int32), j + d = 6 → (∀ i, i < j → w i = nI (ht_PP s P i)) → wX_interrupted_2 post f (d + 1) (nI j) a r p q o b w := by
  intro d
  induction d with
  | zero =>
    intro j w hj hw
    have e : j = 6 := by omega
    subst e
    refine br_t (by decide) ⟨113, ht_x43 hD hB hM K 112 0 0 (ht_PP s P) w rfl (by omega) (fun i hi => ⟨hw i hi, ?_⟩) (ht_I0 hM (fun _ _ => rfl))⟩
    have := (hM i hi).2.1
    unfold ht_PP
    split <;> omega
  | succ d ih =>
    intro j w hj hw
    have j6 : j < 6 := by omega
    obtain ⟨eR, eP, eQ⟩ := hD j j6
    have cj : (nI j).toNatClampNeg = j := nI_clamp (by omega)
    have vj : vp_in (nI j) 6 := vp_in_nI j6 (by omega)
    refine br_f (nI_ge (b := 6) j6 (by decide)) ⟨vj, ?_⟩
    rw [cj, eP]
    by_cases z : s.testBit j = true
    · refine br_f (fun z' => (ht_PRz hA j6).mp z' z) ⟨vj, vj, nm_e (nm_r (nI_1 _) (ih (j + 1) _ (by omega) (fun i hi => ?_)))⟩
      by_cases e : i = j
      · subst e
        rw [pk_us]
        unfold ht_PP
        rw [if_pos z]
      · rw [pk_un e]; exact hw i (by omega)
    · refine br_t ((ht_PRz hA j6).mpr z) ⟨vj, nm_e (nm_r (nI_1 _) (ih (j + 1) _ (by omega) (fun i hi => ?_)))⟩
      by_cases e : i = j
      · subst e
        rw [pk_us]
        unfold ht_PP
        rw [if_neg z]
        rfl
      · rw [pk_un e]; exact hw i (by omega)
theorem ht_xinterrupted {post : Int32 → SX → Prop} {s : Nat} {f : Int32} {a r p q o b w : Nat → Int32} {R P Q : Nat → Nat} (hA : ht_PR a s) (hD : ht_D r p q R P Q) (hB : ht_bd R P Q) (hM : ht_sm s R P Q) (K : ∀ g U w, g < 100000 → ht_I s R P Q U 112 g → post (nI g) (f, a, r, p, q, o, b, w)) : wpX_interrupted post (f, a, r, p, q, o, b, w) :=
  ⟨7, ht_x2 hA hD hB hM K 6 0 w rfl (fun i hi => absurd hi (Nat.not_lt_zero _))⟩
theorem ht_y12 {post : Int32 → Prop} {T : Nat} {fn fo : Int32} {a pt l st : Nat → Int32} {R P Q : Nat → Nat} (hT : T < 64) (hY : ht_YD pt R P Q) (hB : ht_bd R P Q) (h : post (nI (ht_Bd R P Q T))) : ∀ d j, j + d = 6 → wY_bound_12 post (nI T) fn fo a pt l st (d + 1) (nI (ht_mn T.testBit R j)) (nI (ht_S T.testBit P j)) (nI (ht_mn T.testBit Q j)) (nI j) := by
  intro d
  induction d with
  | zero =>
    intro j hj
    have e : j = 6 := by omega
    subst e
    refine br_t (by decide) ?_
    rw [nI_add, nI_add]
    exact h
  | succ d ih =>
    intro j hj
    have j6 : j < 6 := by omega
    obtain ⟨eR, eP, eQ⟩ := hY j j6
    obtain ⟨bR, bP, bQ⟩ := hB j j6
    have e0 : (3 : Int32) * nI j = nI (3 * j) := pk_mul 3 j
    have e1 : nI (3 * j) + 1 = nI (3 * j + 1) := nI_1 _
    have e2 : nI (3 * j) + 2 = nI (3 * j + 2) := nI_add _ 2
    have v0 : vp_in (nI (3 * j)) 18 := vp_in_nI (by omega) (by omega)
    have v1 : vp_in (nI (3 * j + 1)) 18 := vp_in_nI (by omega) (by omega)
    have v2 : vp_in (nI (3 * j + 2)) 18 := vp_in_nI (by omega) (by omega)
    have c0 : (nI (3 * j)).toNatClampNeg = 3 * j := nI_clamp (by omega)
    have c1 : (nI (3 * j + 1)).toNatClampNeg = 3 * j + 1 := nI_clamp (by omega)
    have c2 : (nI (3 * j + 2)).toNatClampNeg = 3 * j + 2 := nI_clamp (by omega)
    have mR := ht_mn_100 T.testBit R j
    have mQ := ht_mn_100 T.testBit Q j
    have ih' := ih (j + 1) (by omega)
    refine br_f (nI_ge (b := 6) j6 (by decide)) ?_
    by_cases z : T.testBit j = true
    · have eR' : ht_mn T.testBit R (j + 1) = min (ht_mn T.testBit R j) (R j) := if_pos z
      have eQ' : ht_mn T.testBit Q (j + 1) = min (ht_mn T.testBit Q j) (Q j) := if_pos z
      have eP' : ht_S T.testBit P (j + 1) = ht_S T.testBit P j + P j := by
        show _ + (if T.testBit j = true then P j else 0) = _
        rw [if_pos z]
      rw [eR', eQ', eP'] at ih'
      have body : ∀ m, m = min (ht_mn T.testBit R j) (R j) → wY_bound_55 post (wY_bound_12 post (nI T) fn fo a pt l st (d + 1)) (nI T) (nI (ht_S T.testBit P j)) (nI (ht_mn T.testBit Q j)) (nI j) (nI m) fn fo a pt l st := by
        intro m hm
        subst hm
        unfold wY_bound_55
        rw [e0, e1, e2, c1, c2, eP, eQ]
        refine ⟨v1, nm_r (nI_add _ _) ⟨v2, pk_le (ht_mn T.testBit Q j) (Q j) (fun y => nm_r (nI_1 _) ?_) (fun y => ⟨v2, nm_e (nm_r (nI_1 _) ?_)⟩)⟩⟩
        · rw [Nat.min_eq_left y] at ih'; exact ih'
        · rw [Nat.min_eq_right (show Q j ≤ ht_mn T.testBit Q j by omega)] at ih'; exact ih'
      refine br_t ((ht_bit hT j6).mpr z) ?_
      rw [e0, c0, eR]
      exact ⟨v0, pk_le (ht_mn T.testBit R j) (R j) (fun y => body _ (by omega)) (fun y => ⟨v0, body _ (by omega)⟩)⟩
    · have eR' : ht_mn T.testBit R (j + 1) = ht_mn T.testBit R j := if_neg z
      have eQ' : ht_mn T.testBit Q (j + 1) = ht_mn T.testBit Q j := if_neg z
      have eP' : ht_S T.testBit P (j + 1) = ht_S T.testBit P j := by
        show _ + (if T.testBit j = true then P j else 0) = _
        rw [if_neg z]; rfl
      rw [eR', eQ', eP'] at ih'
      exact br_f (fun z' => z ((ht_bit hT j6).mp z')) (nm_r (nI_1 _) ih')
theorem ht_ybound {post : Int32 → Prop} {T : Nat} {fn fo : Int32} {a pt l st : Nat → Int32} {R P Q : Nat → Nat} (hT : T < 64) (hY : ht_YD pt R P Q) (hB : ht_bd R P Q) (h : post (nI (ht_Bd R P Q T))) : wpY_bound post (fn, fo, a, pt, l, st) (nI T) :=
  ⟨7, ht_y12 hT hY hB h 6 0 rfl⟩
theorem ht_Bd_le {R P Q : Nat → Nat} (hB : ht_bd R P Q) (T : Nat) : ht_Bd R P Q T ≤ 1000 := by
  have a := ht_mn_100 T.testBit R 6
  have b := ht_mn_100 T.testBit Q 6
  have c := ht_S_bd (b := T.testBit) (f := P) (k := 12) 6 (fun j hj => (hB j hj).2.1)
  unfold ht_Bd
  omega
theorem ht_y4 {post : Int32 → Prop} {s : Nat} {fn fo : Int32} {a pt l st : Nat → Int32} {R P Q : Nat → Nat} (hs : s < 64) (hA : ht_PR a s) (hY : ht_YD pt R P Q) (hB : ht_bd R P Q) (K : ∀ m, (∀ T, 1 ≤ T → T < 64 → T &&& s = T → ht_Bd R P Q T ≤ m) → (m = 0 ∨ ∃ T, 1 ≤ T ∧ T < 64 ∧ T &&& s = T ∧ m = ht_Bd R P Q T) → post (nI m)) : ∀ d t m, t + d = 64 → m ≤ 1000 → (∀ T, 1 ≤ T → T < t → T &&& s = T → ht_Bd R P Q T ≤ m) → (m = 0 ∨ ∃ T, 1 ≤ T ∧ T < 64 ∧ T &&& s = T ∧ m = ht_Bd R P Q T) → 1 ≤ t → wY_interrupted_4 post fn fo a pt l st (d + 1) (nI m) (nI t) := by
  intro d
  induction d with
  | zero =>
    intro t m ht hm h1 h2 h3
    have e : t = 64 := by omega
    subst e
    exact br_t (by decide) (K m h1 h2)
  | succ d ih =>
    intro t m ht hm h1 h2 h3
    have t64 : t < 64 := by omega
    have hb := ht_Bd_le hB t
    refine br_f (nI_ge (b := 64) t64 (by decide)) (ht_ybound t64 hY hB (ht_yjobs hs hA ?_))
    by_cases z : t &&& s = t
    · refine br_t ((ht_subI t64 hs).mpr z) (pk_le (ht_Bd R P Q t) m (fun y => nm_r (nI_1 _) (ih (t + 1) m (by omega) hm (fun T a b c => ?_) h2 (by omega))) (fun y => nm_r (nI_1 _) (ih (t + 1) (ht_Bd R P Q t) (by omega) hb (fun T a b c => ?_) (Or.inr ⟨t, h3, t64, z, rfl⟩) (by omega))))
      · by_cases e : T = t
        · subst e; exact y
        · exact h1 T a (by omega) c
      · by_cases e : T = t
        · subst e; exact Nat.le_refl _
        · have := h1 T a (by omega) c; omega
    · refine br_f (fun z' => z ((ht_subI t64 hs).mp z')) (nm_r (nI_1 _) (ih (t + 1) m (by omega) hm (fun T a b c => ?_) h2 (by omega)))
      by_cases e : T = t
      · subst e; exact absurd c z
      · exact h1 T a (by omega) c
theorem ht_yinterrupted {post : Int32 → Prop} {s : Nat} {fn fo : Int32} {a pt l st : Nat → Int32} {R P Q : Nat → Nat} (hs : s < 64) (hA : ht_PR a s) (hY : ht_YD pt R P Q) (hB : ht_bd R P Q) (K : ∀ m, (∀ T, 1 ≤ T → T < 64 → T &&& s = T → ht_Bd R P Q T ≤ m) → (m = 0 ∨ ∃ T, 1 ≤ T ∧ T < 64 ∧ T &&& s = T ∧ m = ht_Bd R P Q T) → post (nI m)) : wpY_interrupted post (fn, fo, a, pt, l, st) :=
  ⟨64, ht_y4 hs hA hY hB K 63 1 0 rfl (by omega) (fun T a b => absurd b (by omega)) (Or.inl rfl) (by omega)⟩
