theorem ht_dec (s : Nat) (x : Int32) : ht_E s x ∨ ¬ ht_E s x := Classical.em _
theorem i_vc_add {k : Nat} {u : SX} {v : SY} (I : i_Rel k u v) (hk : k + 5 ≤ 2560) (v1 : Int32) (v2 : Int32) (v3 : Int32) : wpX_add (fun r u' => wpY_add (fun r' v' => r' = r ∧ i_Rel (k + 5) u' v') v v1 v2 v3) u v1 v2 v3 := by
  obtain ⟨s, a, R, P, Q, r, p, q, o, b, w, fn, fo, pt, l, st, hs, rfl, rfl, hA, hD, hY, hM⟩ := I
  unfold wpX_add
  dsimp only
  refine ht_xir (fun g => br_f (by decide) ⟨7, ht_xaddL hA (fun h => ?_) (fun j hj hn hf => ?_) 6 0 rfl (fun i hi => absurd hi (Nat.not_lt_zero _))⟩) (fun g => br_t rfl ?_)
  · unfold wpY_add
    dsimp only
    refine ht_yir (fun _ => br_f (by decide) ⟨7, ht_yaddL hA (fun _ => ⟨rfl, ht_mk hs hA hD hY hM⟩) (fun j hj hn hf => absurd (h j hj) hn) 6 0 rfl (fun i hi => absurd hi (Nat.not_lt_zero _))⟩) (fun g' => absurd g g')
  · unfold wpY_add
    dsimp only
    refine ht_yir (fun _ => br_f (by decide) ⟨7, ht_yaddL hA (fun h => absurd (h j hj) hn) (fun j' hj' hn' hf' => ?_) 6 0 rfl (fun i hi => absurd hi (Nat.not_lt_zero _))⟩) (fun g' => absurd g g')
    have e : j' = j := by
      rcases Nat.lt_trichotomy j' j with z | z | z
      · exact absurd (hf j' z) hn'
      · exact z
      · exact absurd (hf' j z) hn
    subst e
    obtain ⟨x, y, z, hx, hy1, hy, hz, rfl, rfl, rfl⟩ := ht_gdN g
    obtain ⟨m1, m2, m3⟩ := ht_addM hs hj (Bool.not_eq_true _ ▸ hn)
    rw [nI_1, ← m2]
    refine ⟨rfl, ht_mk m1 (fun i hi => ?_) (ht_D_up hD) (ht_YD_t (ht_YD_p (ht_YD_r hY))) (fun i hi => ?_)⟩
    · rw [m3 i hi]
      by_cases e : i = j'
      · subst e; rw [pk_us, beq_self_eq_true]; rfl
      · rw [pk_un e, beq_false_of_ne e]; exact hA i hi
    · by_cases e : i = j'
      · subst e; rw [ht_upE, ht_upE, ht_upE]; exact ⟨hx, hy, hz, fun _ => hy1⟩
      · rw [ht_upN e, ht_upN e, ht_upN e, m3 i hi, beq_false_of_ne e]; exact hM i hi
  · unfold wpY_add
    dsimp only
    exact ht_yir (fun g' => absurd g' g) (fun _ => br_t rfl ⟨rfl, ht_mk hs hA hD hY hM⟩)
theorem i_vc_remove {k : Nat} {u : SX} {v : SY} (I : i_Rel k u v) (hk : k + 5 ≤ 2560) (v1 : Int32) : wpX_remove (fun r u' => wpY_remove (fun r' v' => r' = r ∧ i_Rel (k + 5) u' v') v v1) u v1 := by
  obtain ⟨s, a, R, P, Q, r, p, q, o, b, w, fn, fo, pt, l, st, hs, rfl, rfl, hA, hD, hY, hM⟩ := I
  unfold wpX_remove
  dsimp only
  rcases ht_dec s v1 with ⟨j, hj, rfl, ht⟩ | hE
  · have cj : (nI j).toNatClampNeg = j := nI_clamp (by omega)
    have vj : vp_in (nI j) 6 := vp_in_nI hj (by omega)
    obtain ⟨m1, m2, m3⟩ := ht_remM hs hj ht
    rw [cj]
    refine ht_xis1 hA hj ht (br_f (by decide) ⟨vj, nm_e (nm_r (e' := nI (ht_cn (s - 2 ^ j))) (by rw [← m2, nI_pred]) ?_)⟩)
    unfold wpY_remove
    dsimp only
    rw [cj]
    refine ht_yis1 hA hj ht (br_f (by decide) ⟨vj, nm_e ⟨rfl, ht_mk m1 (fun i hi => ?_) hD hY (fun i hi => ?_)⟩⟩)
    · rw [m3 i hi]
      by_cases e : i = j
      · subst e; rw [pk_us, beq_self_eq_true]; rfl
      · rw [pk_un e, beq_false_of_ne e]; exact hA i hi
    · obtain ⟨a1, a2, a3, a4⟩ := hM i hi
      refine ⟨a1, a2, a3, fun h => a4 ?_⟩
      rw [m3 i hi, Bool.and_eq_true] at h
      exact h.2
  · refine ht_xis0 hA hE (br_t rfl ?_)
    unfold wpY_remove
    dsimp only
    exact ht_yis0 hA hE (br_t rfl ⟨rfl, ht_mk hs hA hD hY hM⟩)
theorem i_vc_change {k : Nat} {u : SX} {v : SY} (I : i_Rel k u v) (hk : k + 5 ≤ 2560) (v1 : Int32) (v2 : Int32) (v3 : Int32) (v4 : Int32) : wpX_change (fun r u' => wpY_change (fun r' v' => r' = r ∧ i_Rel (k + 5) u' v') v v1 v2 v3 v4) u v1 v2 v3 v4 := by
  obtain ⟨s, a, R, P, Q, r, p, q, o, b, w, fn, fo, pt, l, st, hs, rfl, rfl, hA, hD, hY, hM⟩ := I
  unfold wpX_change
  dsimp only
  rcases ht_dec s v1 with ⟨j, hj, rfl, ht⟩ | hE
  · refine ht_xis1 hA hj ht (br_f (by decide) (ht_xir (fun g => br_f (by decide) (ht_xwrite hj ?_)) (fun g => br_t rfl ?_)))
    · dsimp only
      unfold wpY_change
      dsimp only
      refine ht_yis1 hA hj ht (br_f (by decide) (ht_yir (fun _ => br_f (by decide) (ht_yhold hj ?_)) (fun g' => absurd g g')))
      obtain ⟨x, y, z, hx, hy1, hy, hz, rfl, rfl, rfl⟩ := ht_gdN g
      refine ⟨rfl, ht_mk hs hA (ht_D_up hD) (ht_YD_t (ht_YD_p (ht_YD_r hY))) (fun i hi => ?_)⟩
      by_cases e : i = j
      · subst e; rw [ht_upE, ht_upE, ht_upE]; exact ⟨hx, hy, hz, fun _ => hy1⟩
      · rw [ht_upN e, ht_upN e, ht_upN e]; exact hM i hi
    · unfold wpY_change
      dsimp only
      exact ht_yis1 hA hj ht (br_f (by decide) (ht_yir (fun g' => absurd g' g) (fun _ => br_t rfl ⟨rfl, ht_mk hs hA hD hY hM⟩)))
  · refine ht_xis0 hA hE (br_t rfl ?_)
    unfold wpY_change
    dsimp only
    exact ht_yis0 hA hE (br_t rfl ⟨rfl, ht_mk hs hA hD hY hM⟩)
theorem i_vc_jobs {k : Nat} {u : SX} {v : SY} (I : i_Rel k u v) (hk : k + 5 ≤ 2560) : wpX_jobs (fun r => wpY_jobs (fun r' => r' = r ∧ i_Rel (k + 5) u v) v) u := by
  obtain ⟨s, a, R, P, Q, r, p, q, o, b, w, fn, fo, pt, l, st, hs, rfl, rfl, hA, hD, hY, hM⟩ := I
  exact ht_xjobs hs hA (ht_yjobs hs hA ⟨rfl, ht_mk hs hA hD hY hM⟩)
theorem i_vc_part {k : Nat} {u : SX} {v : SY} (I : i_Rel k u v) (hk : k + 5 ≤ 2560) (v1 : Int32) (v2 : Int32) : wpX_part (fun r => wpY_part (fun r' => r' = r ∧ i_Rel (k + 5) u v) v v1 v2) u v1 v2 := by
  obtain ⟨s, a, R, P, Q, r, p, q, o, b, w, fn, fo, pt, l, st, hs, rfl, rfl, hA, hD, hY, hM⟩ := I
  have J : i_Rel (k + 5) (nI (ht_cn s), a, r, p, q, o, b, w) (fn, fo, a, pt, l, st) := ht_mk hs hA hD hY hM
  unfold wpX_part
  dsimp only
  rcases ht_dec s v1 with ⟨j, hj, rfl, ht⟩ | hE
  · obtain ⟨d1, d2, d3⟩ := hD j hj
    obtain ⟨y1, y2, y3⟩ := hY j hj
    have cj : (nI j).toNatClampNeg = j := nI_clamp (by omega)
    have vj : vp_in (nI j) 6 := vp_in_nI hj (by omega)
    have e0 : (3 : Int32) * nI j = nI (3 * j) := pk_mul 3 j
    rw [cj, d1, d2, d3]
    refine ht_xis1 hA hj ht (br_f (by decide) (br_c (fun c => ?_) (fun c1 => br_c (fun c => ?_) (fun c2 => ?_))))
    · unfold wpY_part
      dsimp only
      exact ht_yis1 hA hj ht (br_f (by decide) (br_t c ⟨rfl, J⟩))
    · unfold wpY_part
      dsimp only
      exact ht_yis1 hA hj ht (br_f (by decide) (br_f c1 (br_t c ⟨rfl, J⟩)))
    · obtain ⟨m, hm, rfl⟩ := nI_of c1
      have c2' : ¬ nI 2 < nI m := c2
      rw [nI_ltI (by omega) hm] at c2'
      have em : (3 : Int32) * nI j + nI m = nI (3 * j + m) := by rw [e0, nI_add]
      have cm : (nI (3 * j + m)).toNatClampNeg = 3 * j + m := nI_clamp (by omega)
      have vm : vp_in (nI (3 * j + m)) 18 := vp_in_nI (by omega) (by omega)
      have Y : ∀ x : Nat, pt (3 * j + m) = nI x → wpY_part (fun r' => r' = nI x ∧ i_Rel (k + 5) (nI (ht_cn s), a, r, p, q, o, b, w) (fn, fo, a, pt, l, st)) (fn, fo, a, pt, l, st) (nI j) (nI m) := by
        intro x hx
        unfold wpY_part
        dsimp only
        rw [em, cm]
        exact ht_yis1 hA hj ht (br_f (by decide) (br_f c1 (br_f c2 ⟨vm, hx, J⟩)))
      rcases (show m = 0 ∨ m = 1 ∨ m = 2 by omega) with rfl | rfl | rfl
      · exact br_t rfl ⟨vj, Y _ y1⟩
      · exact br_f (by decide) (br_t rfl ⟨vj, Y _ y2⟩)
      · exact br_f (by decide) (br_f (by decide) (br_t rfl ⟨vj, Y _ y3⟩))
  · refine ht_xis0 hA hE (br_t rfl ?_)
    unfold wpY_part
    dsimp only
    exact ht_yis0 hA hE (br_t rfl ⟨rfl, J⟩)
theorem i_vc_least {k : Nat} {u : SX} {v : SY} (I : i_Rel k u v) (hk : k + 5 ≤ 2560) : wpX_least (fun r u' => wpY_least (fun r' v' => r' = r ∧ i_Rel (k + 5) u' v') v) u := by
  obtain ⟨s, a, R, P, Q, r, p, q, o, b, w, fn, fo, pt, l, st, hs, rfl, rfl, hA, hD, hY, hM⟩ := I
  have hB := ht_smb hM
  unfold wpX_least
  dsimp only
  refine ht_xsearch (wl := fun _ => true) hs hA hD hB (fun o b l ps _ _ _ h => ht_xw0 h) (fun o' b' _ => ?_)
  dsimp only
  unfold wpY_least
  dsimp only
  refine ht_yleastOf (fn := fn) (fo := fo) (W := fun _ => true) hs hA hY hB (Or.inl ⟨rfl, fun _ => rfl⟩) (fun l' st' => ⟨?_, ht_mk hs hA hD hY hM⟩)
  rw [ht_ms_eq (W := fun _ => true) (ht_all hB hs) ⟨0, (ht_nums hs).2.1, rfl⟩]
theorem ht_bst {s : Nat} {R P Q : Nat → Nat} (hs : s < 64) (hB : ht_bd R P Q) : ht_ms (fun _ => true) (ht_L R P Q s) 1000000 (ht_N s) < 1000000 ∧ ht_am (fun _ => true) (ht_L R P Q s) 1000000 (ht_N s) < ht_N s := by
  obtain ⟨b0, b1, _, _⟩ := ht_ms_att (W := fun _ => true) (L := ht_L R P Q s) (g0 := 1000000) (N := ht_N s) (fun c hc => by have := ht_L_le hB hs hc; omega) ⟨0, (ht_nums hs).2.1, rfl⟩
  exact ⟨b0, b1⟩
theorem i_vc_bestAt {k : Nat} {u : SX} {v : SY} (I : i_Rel k u v) (hk : k + 5 ≤ 2560) (v1 : Int32) : wpX_bestAt (fun r u' => wpY_bestAt (fun r' v' => r' = r ∧ i_Rel (k + 5) u' v') v v1) u v1 := by
  obtain ⟨s, a, R, P, Q, r, p, q, o, b, w, fn, fo, pt, l, st, hs, rfl, rfl, hA, hD, hY, hM⟩ := I
  have hB := ht_smb hM
  have hn := (ht_nums hs).2.2.2
  unfold wpX_bestAt
  dsimp only
  refine br_c (fun c => ?_) (fun c1 => br_c (fun c2 => ?_) (fun c2 => ?_))
  · unfold wpY_bestAt
    dsimp only
    exact ht_ybest (fn := fn) (fo := fo) hs hA hY hB (fun l' st' => br_t c ⟨rfl, ht_mk hs hA hD hY hM⟩)
  · obtain ⟨m, hm, rfl⟩ := nI_of c1
    have c2' := c2
    rw [nI_ltI hm (by omega)] at c2'
    have cm : (nI m).toNatClampNeg = m := nI_clamp hm
    have vm : vp_in (nI m) 6 := vp_in_nI (by omega) (by omega)
    have hb := ht_bst (R := R) (P := P) (Q := Q) hs hB
    rw [cm]
    refine ht_xsearch (wl := fun _ => true) hs hA hD hB (fun o b l ps _ _ _ h => ht_xw0 h) (fun o' b' h' => ?_)
    have hO : ht_OA b' (ht_or s (ht_am (fun _ => true) (ht_L R P Q s) 1000000 (ht_N s))) := h' hb.1
    refine ⟨vm, ?_⟩
    unfold wpY_bestAt
    dsimp only
    rw [cm]
    refine ht_ybest (fn := fn) (fo := fo) hs hA hY hB (fun l' st' => br_f c1 (br_t c2 ⟨vm, ?_, ht_mk hs hA hD hY hM⟩))
    have hl : m < (ht_or s (ht_am (fun _ => true) (ht_L R P Q s) 1000000 (ht_N s))).length := by rw [ht_or_len]; exact c2'
    exact (ht_yl_OA _ l' m hl).trans (hO m hl).symm
  · unfold wpY_bestAt
    dsimp only
    exact ht_ybest (fn := fn) (fo := fo) hs hA hY hB (fun l' st' => br_f c1 (br_f c2 ⟨rfl, ht_mk hs hA hD hY hM⟩))
theorem i_vc_begins {k : Nat} {u : SX} {v : SY} (I : i_Rel k u v) (hk : k + 5 ≤ 2560) (v1 : Int32) : wpX_begins (fun r u' => wpY_begins (fun r' v' => r' = r ∧ i_Rel (k + 5) u' v') v v1) u v1 := by
  obtain ⟨s, a, R, P, Q, r, p, q, o, b, w, fn, fo, pt, l, st, hs, rfl, rfl, hA, hD, hY, hM⟩ := I
  have hB := ht_smb hM
  have hn := (ht_nums hs).2.2.2
  unfold wpX_begins
  dsimp only
  rcases ht_dec s v1 with ⟨j, hj, rfl, ht⟩ | hE
  · have hb := ht_bst (R := R) (P := P) (Q := Q) hs hB
    have hg := ht_good hs hb.2
    have cj : (nI j).toNatClampNeg = j := nI_clamp (by omega)
    have vj : vp_in (nI j) 6 := vp_in_nI hj (by omega)
    refine ht_xis1 hA hj ht (br_f (by decide) (ht_xsearch (wl := fun _ => true) hs hA hD hB (fun o b l ps _ _ _ h => ht_xw0 h) (fun o' b' h' => ?_)))
    have hO : ht_OA b' (ht_or s (ht_am (fun _ => true) (ht_L R P Q s) 1000000 (ht_N s))) := h' hb.1
    have hlen := ht_or_len s (ht_am (fun _ => true) (ht_L R P Q s) 1000000 (ht_N s))
    refine ⟨ht_cn s + 1, ht_xbegL hD hB hn hj _ (ht_cn s + 1) 0 0 (by omega) (fun i hi => by rw [Nat.zero_add]; exact hO i hi) (ht_or_B6 hs hb.2) (by omega) (by omega) (hg.2.2 j hj ht) ?_⟩
    unfold wpY_begins
    dsimp only
    rw [cj]
    refine ht_ybest (fn := fn) (fo := fo) hs hA hY hB (fun l' st' => ht_yis1 hA hj ht (br_f (by decide) ⟨vj, ?_, ht_mk hs hA hD hY hM⟩))
    exact ht_ys_bg R P _ st' 0 j hg.2.1 (hg.2.2 j hj ht)
  · refine ht_xis0 hA hE (br_t rfl ?_)
    unfold wpY_begins
    dsimp only
    exact ht_ybest (fn := fn) (fo := fo) hs hA hY hB (fun l' st' => ht_yis0 hA hE (br_t rfl ⟨rfl, ht_mk hs hA hD hY hM⟩))
theorem i_vc_leastWith {k : Nat} {u : SX} {v : SY} (I : i_Rel k u v) (hk : k + 5 ≤ 2560) (v1 : Int32) (v2 : Int32) : wpX_leastWith (fun r u' => wpY_leastWith (fun r' v' => r' = r ∧ i_Rel (k + 5) u' v') v v1 v2) u v1 v2 := by
  obtain ⟨s, a, R, P, Q, r, p, q, o, b, w, fn, fo, pt, l, st, hs, rfl, rfl, hA, hD, hY, hM⟩ := I
  have hB := ht_smb hM
  have hn := (ht_nums hs).2.2.2
  unfold wpX_leastWith
  dsimp only
  rcases ht_dec s v1 with ⟨i, hi, rfl, hti⟩ | hE
  · rcases ht_dec s v2 with ⟨j, hj, rfl, htj⟩ | hE
    · by_cases e : i = j
      · subst e
        refine ht_xis1 hA hi hti (br_f (by decide) (ht_xis1 hA hj htj (br_f (by decide) (br_t rfl ?_))))
        unfold wpY_leastWith
        dsimp only
        exact ht_yis1 hA hi hti (br_f (by decide) (ht_yis1 hA hj htj (br_f (by decide) (br_t rfl ⟨rfl, ht_mk hs hA hD hY hM⟩))))
      · have ne : ¬ nI i = nI j := fun z => e ((nI_eq (by omega) (by omega)).mp z)
        refine ht_xis1 hA hi hti (br_f (by decide) (ht_xis1 hA hj htj (br_f (by decide) (br_f ne (ht_xsearch (wl := fun l => ht_cb l i j) hs hA hD hB (fun o b l ps h1 h2 h3 h => ht_xwW hi hj hn h3 h1 h2 h) (fun o' b' _ => ?_))))))
        dsimp only
        unfold wpY_leastWith
        dsimp only
        refine ht_yis1 hA hi hti (br_f (by decide) (ht_yis1 hA hj htj (br_f (by decide) (br_f ne (ht_yleastOf (fn := fn) (fo := fo) (W := fun c => ht_cb (ht_or s c) i j) hs hA hY hB (Or.inr ⟨i, j, hi, hj, e, rfl, rfl, fun _ => rfl⟩) (fun l' st' => ⟨?_, ht_mk hs hA hD hY hM⟩))))))
        rw [ht_ms_eq (W := fun c => ht_cb (ht_or s c) i j) (ht_all hB hs) (ht_exW hs hi hj hti htj e)]
    · refine ht_xis1 hA hi hti (br_f (by decide) (ht_xis0 hA hE (br_t rfl ?_)))
      unfold wpY_leastWith
      dsimp only
      exact ht_yis1 hA hi hti (br_f (by decide) (ht_yis0 hA hE (br_t rfl ⟨rfl, ht_mk hs hA hD hY hM⟩)))
  · refine ht_xis0 hA hE (br_t rfl ?_)
    unfold wpY_leastWith
    dsimp only
    exact ht_yis0 hA hE (br_t rfl ⟨rfl, ht_mk hs hA hD hY hM⟩)
theorem i_vc_leastFirst {k : Nat} {u : SX} {v : SY} (I : i_Rel k u v) (hk : k + 5 ≤ 2560) (v1 : Int32) : wpX_leastFirst (fun r u' => wpY_leastFirst (fun r' v' => r' = r ∧ i_Rel (k + 5) u' v') v v1) u v1 := by
  obtain ⟨s, a, R, P, Q, r, p, q, o, b, w, fn, fo, pt, l, st, hs, rfl, rfl, hA, hD, hY, hM⟩ := I
  have hB := ht_smb hM
  have hn := (ht_nums hs).2.2.2
  unfold wpX_leastFirst
  dsimp only
  rcases ht_dec s v1 with ⟨j, hj, rfl, ht⟩ | hE
  · have hn0 : 0 < ht_cn s := by
      have := (ht_remM hs hj ht).2.1
      omega
    refine ht_xis1 hA hj ht (br_f (by decide) (ht_xsearch (wl := fun l => decide (ht_at l 0 = j)) hs hA hD hB (fun o b l ps h1 h2 h3 h => ht_xwF hj (by omega) h1 h2 ?_) (fun o' b' _ => ?_)))
    · simpa using h
    · dsimp only
      unfold wpY_leastFirst
      dsimp only
      refine ht_yis1 hA hj ht (br_f (by decide) (ht_ycount (fn := fn) (fo := fo) hA ⟨ht_N s + 1, ht_yfirstL hs hA hY hB hj hn0 (fun l' st' => ⟨?_, ht_mk hs hA hD hY hM⟩) (ht_N s) 0 l st (by omega)⟩))
      obtain ⟨c, hc, ec⟩ := ht_exF hs hj ht
      rw [ht_ms_eq (W := fun c => decide (ht_at (ht_or s c) 0 = j)) (ht_all hB hs) ⟨c, hc, decide_eq_true ec⟩]
  · refine ht_xis0 hA hE (br_t rfl ?_)
    unfold wpY_leastFirst
    dsimp only
    exact ht_yis0 hA hE (br_t rfl ⟨rfl, ht_mk hs hA hD hY hM⟩)
theorem i_vc_interrupted {k : Nat} {u : SX} {v : SY} (I : i_Rel k u v) (hk : k + 5 ≤ 2560) : wpX_interrupted (fun r u' => wpY_interrupted (fun r' => r' = r ∧ i_Rel (k + 5) u' v) v) u := by
  obtain ⟨s, a, R, P, Q, r, p, q, o, b, w, fn, fo, pt, l, st, hs, rfl, rfl, hA, hD, hY, hM⟩ := I
  have hB := ht_smb hM
  refine ht_xinterrupted hA hD hB hM (fun g U w' _ I => ht_yinterrupted hs hA hY hB (fun m h1 h2 => ⟨?_, ht_mk hs hA hD hY hM⟩))
  rw [ht_Iend I h1 h2]
