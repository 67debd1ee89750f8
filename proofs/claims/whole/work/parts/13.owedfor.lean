theorem i_vc_tailFor {k : Nat} {u : SX} {v : SY} (I : i_Rel k u v) (hk : k + 5 ≤ 2560) (v1 : Int32) (v2 : Int32) : wpX_tailFor (fun r u' => wpY_tailFor (fun r' v' => r' = r ∧ i_Rel (k + 5) u' v') v v1 v2) u v1 v2 := by
  obtain ⟨s, a, R, P, Q, r, p, q, o, b, w, fn, fo, pt, l, st, hs, rfl, rfl, hA, hD, hY, hM⟩ := I
  have hB := ht_smb hM
  unfold wpX_tailFor
  dsimp only
  rcases ht_dec s v1 with ⟨j, hj, rfl, ht⟩ | hE
  · have hBv : ∀ v, v ≤ 200 → ht_bd R P (ht_up Q j v) := by
      intro v hv i hi
      obtain ⟨b1, b2, b3⟩ := hB i hi
      by_cases e : i = j
      · subst e; rw [ht_upE]; exact ⟨b1, b2, hv⟩
      · rw [ht_upN e]; exact ⟨b1, b2, b3⟩
    have hYv : ∀ v, v ≤ 200 → ht_YD (upd pt (3 * j + 2) (nI v)) R P (ht_up Q j v) := fun v _ => ht_YD_t hY
    have hdn : ∀ x y, x ≤ y → y ≤ 200 → ¬ v2 < nI (ht_M R P (ht_up Q j y) s) → ¬ v2 < nI (ht_M R P (ht_up Q j x) s) := by
      intro x y hxy hy h z
      refine h (ht_ltm (ht_M_mono hs (hBv x (by omega)) (hBv y hy) (fun i => ?_) (fun i => ?_)) (by have := ht_M_le hs (hBv y hy); omega) z)
      · exact Nat.le_refl _
      · by_cases e : i = j
        · subst e; rw [ht_upE, ht_upE]; exact hxy
        · rw [ht_upN e, ht_upN e]; exact Nat.le_refl _
    refine ht_xis1 hA hj ht (br_f (by decide) (ht_xG_tail (ok := fun v => ¬ v2 < nI (ht_M R P (ht_up Q j v) s)) hs hA hj (fun v _ => ht_D_t hD) hBv (fun v _ => Iff.rfl) hdn (fun G o' b' g1 g2 => ?_)))
    dsimp only
    unfold wpY_tailFor
    dsimp only
    unfold wpY_greatest
    dsimp only
    have ee : (3 : Int32) * nI j + 2 = nI (3 * j + 2) := by rw [show (3 : Int32) * nI j = nI (3 * j) from pk_mul 3 j]; exact nI_add _ 2
    have ce : (nI (3 * j + 2)).toNatClampNeg = 3 * j + 2 := nI_clamp (by omega)
    have ve : vp_in (nI (3 * j + 2)) 18 := vp_in_nI (by omega) (by omega)
    have J : ∀ l' st', i_Rel (k + 5) (nI (ht_cn s), a, r, p, q, o', b', w) (nI (ht_cn s), nI (ht_N s), a, pt, l', st') := fun l' st' => ht_mk hs hA hD hY hM
    rw [ee, ce]
    refine ht_yis1 hA hj ht (br_f (by decide) (ht_ycount (fn := fn) (fo := fo) hA ⟨ve, nm_e ?_⟩))
    by_cases neg : v2 < 0
    · have hG : G = 0 := by
        rcases Nat.eq_zero_or_pos G with z | z
        · exact z
        · refine absurd ?_ (g1 0 z).2
          have h0 := ht_ltm (x := v2) (Nat.zero_le (ht_M R P (ht_up Q j 0) s)) (by have := ht_M_le hs (hBv 0 (by omega)); omega) neg
          exact h0
      subst hG
      refine br_f (fun z => ?_) ⟨1, br_t neg ?_⟩
      · rw [Int32.le_iff_toInt_le] at z
        rw [Int32.lt_iff_toInt_lt] at neg
        have h1 : (200 : Int32).toInt = 200 := by decide
        have h2 : (0 : Int32).toInt = 0 := by decide
        omega
      · unfold wY_greatest_123
        rw [ee, ce, ht_u0]
        exact ⟨ve, nm_e ⟨rfl, J _ _⟩⟩
    · obtain ⟨m, hm, rfl⟩ := nI_of neg
      have hL : ∀ x, x ≤ 200 → ¬ nI m < nI (ht_M R P (ht_up Q j x) s) → x ≤ m := by
        intro x hx h
        have h1 := (ht_M_mem hs (hBv x hx) hj ht).2
        rw [ht_upE] at h1
        have h2 := ht_M_le hs (hBv x hx)
        rw [nI_ltI hm (by omega)] at h
        omega
      have go : ∀ V, V = min m 200 → wY_greatest_45 (fun r' v' => r' = ht_gI G ∧ i_Rel (k + 5) (nI (ht_cn s), a, r, p, q, o', b', w) v') (nI j) 2 (nI m) (pt (3 * j + 2)) (V + 2) (-1) (nI V) (nI (ht_cn s)) (nI (ht_N s)) a pt l st := by
        intro V hV
        have := ht_y45 (post := fun r' v' => r' = ht_gI G ∧ i_Rel (k + 5) (nI (ht_cn s), a, r, p, q, o', b', w) v') (wh := 2) (V := V) (lim := nI m) (P := P) (Rv := fun _ => R) (Qv := fun v => ht_up Q j v) (ok := fun v => ¬ nI m < nI (ht_M R P (ht_up Q j v) s)) hs hA hj (by omega) (by omega) hYv hBv (fun v _ => Iff.rfl) (fun x l' st' hx => ⟨ht_sp_G hV hL hx g1 g2, J l' st'⟩) V (pt (3 * j + 2)) l st (Nat.le_refl _) (fun u h1 h2 => absurd h2 (by omega))
        rw [ht_u0] at this
        exact this
      refine pk_le 200 m (fun z => ⟨200 + 2, ?_⟩) (fun z => ⟨m + 2, ?_⟩)
      · exact go 200 (by omega)
      · exact go m (by omega)
  · refine ht_xis0 hA hE (br_t rfl ?_)
    unfold wpY_tailFor
    dsimp only
    unfold wpY_greatest
    dsimp only
    exact ht_yis0 hA hE (br_t rfl ⟨rfl, ht_mk hs hA hD hY hM⟩)
theorem i_vc_releaseFor {k : Nat} {u : SX} {v : SY} (I : i_Rel k u v) (hk : k + 5 ≤ 2560) (v1 : Int32) (v2 : Int32) : wpX_releaseFor (fun r u' => wpY_releaseFor (fun r' v' => r' = r ∧ i_Rel (k + 5) u' v') v v1 v2) u v1 v2 := by
  obtain ⟨s, a, R, P, Q, r, p, q, o, b, w, fn, fo, pt, l, st, hs, rfl, rfl, hA, hD, hY, hM⟩ := I
  have hB := ht_smb hM
  unfold wpX_releaseFor
  dsimp only
  rcases ht_dec s v1 with ⟨j, hj, rfl, ht⟩ | hE
  · have hBv : ∀ v, v ≤ 200 → ht_bd (ht_up R j v) P Q := by
      intro v hv i hi
      obtain ⟨b1, b2, b3⟩ := hB i hi
      by_cases e : i = j
      · subst e; rw [ht_upE]; exact ⟨hv, b2, b3⟩
      · rw [ht_upN e]; exact ⟨b1, b2, b3⟩
    have hYv : ∀ v, v ≤ 200 → ht_YD (upd pt (3 * j + 0) (nI v)) (ht_up R j v) P Q := fun v _ => ht_YD_r hY
    have hdn : ∀ x y, x ≤ y → y ≤ 200 → ¬ v2 < nI (ht_M (ht_up R j y) P Q s) → ¬ v2 < nI (ht_M (ht_up R j x) P Q s) := by
      intro x y hxy hy h z
      refine h (ht_ltm (ht_M_mono hs (hBv x (by omega)) (hBv y hy) (fun i => ?_) (fun i => ?_)) (by have := ht_M_le hs (hBv y hy); omega) z)
      · by_cases e : i = j
        · subst e; rw [ht_upE, ht_upE]; exact hxy
        · rw [ht_upN e, ht_upN e]; exact Nat.le_refl _
      · exact Nat.le_refl _
    refine ht_xis1 hA hj ht (br_f (by decide) (ht_xG_release (ok := fun v => ¬ v2 < nI (ht_M (ht_up R j v) P Q s)) hs hA hj (fun v _ => ht_D_r hD) hBv (fun v _ => Iff.rfl) hdn (fun G o' b' g1 g2 => ?_)))
    dsimp only
    unfold wpY_releaseFor
    dsimp only
    unfold wpY_greatest
    dsimp only
    have ee : (3 : Int32) * nI j + 0 = nI (3 * j + 0) := by rw [show (3 : Int32) * nI j = nI (3 * j) from pk_mul 3 j]; exact nI_add _ 0
    have ce : (nI (3 * j + 0)).toNatClampNeg = 3 * j + 0 := nI_clamp (by omega)
    have ve : vp_in (nI (3 * j + 0)) 18 := vp_in_nI (by omega) (by omega)
    have J : ∀ l' st', i_Rel (k + 5) (nI (ht_cn s), a, r, p, q, o', b', w) (nI (ht_cn s), nI (ht_N s), a, pt, l', st') := fun l' st' => ht_mk hs hA hD hY hM
    rw [ee, ce]
    refine ht_yis1 hA hj ht (br_f (by decide) (ht_ycount (fn := fn) (fo := fo) hA ⟨ve, nm_e ?_⟩))
    by_cases neg : v2 < 0
    · have hG : G = 0 := by
        rcases Nat.eq_zero_or_pos G with z | z
        · exact z
        · refine absurd ?_ (g1 0 z).2
          have h0 := ht_ltm (x := v2) (Nat.zero_le (ht_M (ht_up R j 0) P Q s)) (by have := ht_M_le hs (hBv 0 (by omega)); omega) neg
          exact h0
      subst hG
      refine br_f (fun z => ?_) ⟨1, br_t neg ?_⟩
      · rw [Int32.le_iff_toInt_le] at z
        rw [Int32.lt_iff_toInt_lt] at neg
        have h1 : (200 : Int32).toInt = 200 := by decide
        have h2 : (0 : Int32).toInt = 0 := by decide
        omega
      · unfold wY_greatest_123
        rw [ee, ce, ht_u0]
        exact ⟨ve, nm_e ⟨rfl, J _ _⟩⟩
    · obtain ⟨m, hm, rfl⟩ := nI_of neg
      have hL : ∀ x, x ≤ 200 → ¬ nI m < nI (ht_M (ht_up R j x) P Q s) → x ≤ m := by
        intro x hx h
        have h1 := (ht_M_mem hs (hBv x hx) hj ht).1
        rw [ht_upE] at h1
        have h2 := ht_M_le hs (hBv x hx)
        rw [nI_ltI hm (by omega)] at h
        omega
      have go : ∀ V, V = min m 200 → wY_greatest_45 (fun r' v' => r' = ht_gI G ∧ i_Rel (k + 5) (nI (ht_cn s), a, r, p, q, o', b', w) v') (nI j) 0 (nI m) (pt (3 * j + 0)) (V + 2) (-1) (nI V) (nI (ht_cn s)) (nI (ht_N s)) a pt l st := by
        intro V hV
        have := ht_y45 (post := fun r' v' => r' = ht_gI G ∧ i_Rel (k + 5) (nI (ht_cn s), a, r, p, q, o', b', w) v') (wh := 0) (V := V) (lim := nI m) (P := P) (Rv := fun v => ht_up R j v) (Qv := fun _ => Q) (ok := fun v => ¬ nI m < nI (ht_M (ht_up R j v) P Q s)) hs hA hj (by omega) (by omega) hYv hBv (fun v _ => Iff.rfl) (fun x l' st' hx => ⟨ht_sp_G hV hL hx g1 g2, J l' st'⟩) V (pt (3 * j + 0)) l st (Nat.le_refl _) (fun u h1 h2 => absurd h2 (by omega))
        rw [ht_u0] at this
        exact this
      refine pk_le 200 m (fun z => ⟨200 + 2, ?_⟩) (fun z => ⟨m + 2, ?_⟩)
      · exact go 200 (by omega)
      · exact go m (by omega)
  · refine ht_xis0 hA hE (br_t rfl ?_)
    unfold wpY_releaseFor
    dsimp only
    unfold wpY_greatest
    dsimp only
    exact ht_yis0 hA hE (br_t rfl ⟨rfl, ht_mk hs hA hD hY hM⟩)
