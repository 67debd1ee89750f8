/-! the relation and what the small methods need -/
def i_Rel (k : Nat) (u : SX) (v : SY) : Prop := ∃ (s : Nat) (a : Nat → Int32) (R P Q : Nat → Nat) (r p q o b w : Nat → Int32) (fn fo : Int32) (pt l st : Nat → Int32), s < 64 ∧ u = (nI (ht_cn s), a, r, p, q, o, b, w) ∧ v = (fn, fo, a, pt, l, st) ∧ ht_PR a s ∧ ht_D r p q R P Q ∧ ht_YD pt R P Q ∧ ht_sm s R P Q
theorem ht_mk {k s : Nat} {a : Nat → Int32} {R P Q : Nat → Nat} {r p q o b w : Nat → Int32} {fn fo : Int32} {pt l st : Nat → Int32} (hs : s < 64) (hA : ht_PR a s) (hD : ht_D r p q R P Q) (hY : ht_YD pt R P Q) (hM : ht_sm s R P Q) : i_Rel k (nI (ht_cn s), a, r, p, q, o, b, w) (fn, fo, a, pt, l, st) :=
  ⟨s, a, R, P, Q, r, p, q, o, b, w, fn, fo, pt, l, st, hs, rfl, rfl, hA, hD, hY, hM⟩
theorem ht_smb {s : Nat} {R P Q : Nat → Nat} (h : ht_sm s R P Q) : ht_bd R P Q := fun j hj => by
  have := h j hj
  omega
theorem i_up {k : Nat} {u : SX} {v : SY} (h : i_Rel k u v) : i_Rel (k + 5) u v := h
theorem i_vc0 : wpX_init (fun u => wpY_init (fun v => i_Rel 0 u v)) :=
  ⟨0, fun _ => 0, fun _ => 0, fun _ => 0, fun _ => 0, fun _ => 0, fun _ => 0, fun _ => 0, fun _ => 0, fun _ => 0, fun _ => 0, 0, 0, fun _ => 0, fun _ => 0, fun _ => 0, by omega, rfl, rfl, fun j _ => by rw [Nat.zero_testBit]; rfl, fun j _ => ⟨rfl, rfl, rfl⟩, fun j _ => ⟨rfl, rfl, rfl⟩, fun j _ => ⟨Nat.zero_le _, Nat.zero_le _, Nat.zero_le _, fun h => by rw [Nat.zero_testBit] at h; exact absurd h (by decide)⟩⟩
def ht_gd (x y z : Int32) : Prop := ¬ x < 0 ∧ ¬ 40 < x ∧ ¬ y < 1 ∧ ¬ 12 < y ∧ ¬ z < 0 ∧ ¬ 40 < z
theorem ht_gdN {x y z : Int32} (h : ht_gd x y z) : ∃ r p q : Nat, r ≤ 40 ∧ 1 ≤ p ∧ p ≤ 12 ∧ q ≤ 40 ∧ x = nI r ∧ y = nI p ∧ z = nI q := by
  obtain ⟨h1, h2, h3, h4, h5, h6⟩ := h
  obtain ⟨r, hr, rfl⟩ := nI_of h1
  have h3' : ¬ y < 0 := fun e => h3 (by
    rw [Int32.lt_iff_toInt_lt] at e ⊢
    have a : (0 : Int32).toInt = 0 := by decide
    have b : (1 : Int32).toInt = 1 := by decide
    omega)
  obtain ⟨p, hp, rfl⟩ := nI_of h3'
  obtain ⟨q, hq, rfl⟩ := nI_of h5
  have k2 : ¬ nI 40 < nI r := h2
  have k3 : ¬ nI p < nI 1 := h3
  have k4 : ¬ nI 12 < nI p := h4
  have k6 : ¬ nI 40 < nI q := h6
  rw [nI_ltI (by omega) hr] at k2
  rw [nI_ltI hp (by omega)] at k3
  rw [nI_ltI (by omega) hp] at k4
  rw [nI_ltI (by omega) hq] at k6
  exact ⟨r, p, q, by omega, by omega, by omega, by omega, rfl, rfl, rfl⟩
theorem ht_xir {post : Int32 → Prop} {u : SX} {x y z : Int32} (h1 : ht_gd x y z → post 1) (h0 : ¬ ht_gd x y z → post 0) : wpX_inRange post u x y z := by
  obtain ⟨f, a, r, p, q, o, b, w⟩ := u
  exact br_c (fun c => h0 (fun g => g.1 c)) (fun c1 => br_c (fun c => h0 (fun g => g.2.1 c)) (fun c2 => br_c (fun c => h0 (fun g => g.2.2.1 c)) (fun c3 => br_c (fun c => h0 (fun g => g.2.2.2.1 c)) (fun c4 => br_c (fun c => h0 (fun g => g.2.2.2.2.1 c)) (fun c5 => br_c (fun c => h0 (fun g => g.2.2.2.2.2 c)) (fun c6 => h1 ⟨c1, c2, c3, c4, c5, c6⟩))))))
theorem ht_yir {post : Int32 → Prop} {u : SY} {x y z : Int32} (h1 : ht_gd x y z → post 1) (h0 : ¬ ht_gd x y z → post 0) : wpY_good post u x y z := by
  obtain ⟨fn, fo, a, pt, l, st⟩ := u
  exact br_c (fun c => h0 (fun g => g.1 c)) (fun c1 => br_c (fun c => h0 (fun g => g.2.1 c)) (fun c2 => br_c (fun c => h0 (fun g => g.2.2.1 c)) (fun c3 => br_c (fun c => h0 (fun g => g.2.2.2.1 c)) (fun c4 => br_c (fun c => h0 (fun g => g.2.2.2.2.1 c)) (fun c5 => br_c (fun c => h0 (fun g => g.2.2.2.2.2 c)) (fun c6 => h1 ⟨c1, c2, c3, c4, c5, c6⟩))))))
def ht_E (s : Nat) (x : Int32) : Prop := ∃ j, j < 6 ∧ x = nI j ∧ s.testBit j = true
theorem ht_xis1 {post : Int32 → Prop} {s j : Nat} {f : Int32} {a r p q o b w : Nat → Int32} (hA : ht_PR a s) (hj : j < 6) (ht : s.testBit j = true) (h : post 1) : wpX_isJob post (f, a, r, p, q, o, b, w) (nI j) :=
  br_f (nI_pos (by omega)) (br_f (nI_ge (b := 6) hj (by decide)) ⟨vp_in_nI hj (by omega), br_f (fun z => by rw [nI_clamp (by omega)] at z; exact (ht_PRz hA hj).mp z ht) h⟩)
theorem ht_yis1 {post : Int32 → Prop} {s j : Nat} {fn fo : Int32} {a pt l st : Nat → Int32} (hA : ht_PR a s) (hj : j < 6) (ht : s.testBit j = true) (h : post 1) : wpY_is post (fn, fo, a, pt, l, st) (nI j) :=
  br_f (nI_pos (by omega)) (br_f (nI_ge (b := 6) hj (by decide)) ⟨vp_in_nI hj (by omega), br_f (fun z => by rw [nI_clamp (by omega)] at z; exact (ht_PRz hA hj).mp z ht) h⟩)
theorem ht_xis0 {post : Int32 → Prop} {s : Nat} {x f : Int32} {a r p q o b w : Nat → Int32} (hA : ht_PR a s) (hE : ¬ ht_E s x) (h : post 0) : wpX_isJob post (f, a, r, p, q, o, b, w) x := by
  refine br_c (fun _ => h) (fun c1 => br_c (fun _ => h) (fun c2 => ?_))
  rcases pk_ix x (n := 6) (by omega) with e | e | ⟨j, hj, rfl⟩
  · exact absurd e c1
  · exact absurd e c2
  · refine ⟨vp_in_nI hj (by omega), br_t ?_ h⟩
    rw [nI_clamp (by omega)]
    exact (ht_PRz hA hj).mpr (fun z => hE ⟨j, hj, rfl, z⟩)
theorem ht_yis0 {post : Int32 → Prop} {s : Nat} {x fn fo : Int32} {a pt l st : Nat → Int32} (hA : ht_PR a s) (hE : ¬ ht_E s x) (h : post 0) : wpY_is post (fn, fo, a, pt, l, st) x := by
  refine br_c (fun _ => h) (fun c1 => br_c (fun _ => h) (fun c2 => ?_))
  rcases pk_ix x (n := 6) (by omega) with e | e | ⟨j, hj, rfl⟩
  · exact absurd e c1
  · exact absurd e c2
  · refine ⟨vp_in_nI hj (by omega), br_t ?_ h⟩
    rw [nI_clamp (by omega)]
    exact (ht_PRz hA hj).mpr (fun z => hE ⟨j, hj, rfl, z⟩)
theorem ht_upE (f : Nat → Nat) (j v : Nat) : ht_up f j v j = v := if_pos rfl
theorem ht_upN {f : Nat → Nat} {j v i : Nat} (h : i ≠ j) : ht_up f j v i = f i := if_neg h
theorem ht_D_up {r p q : Nat → Int32} {R P Q : Nat → Nat} {j x y z : Nat} (h : ht_D r p q R P Q) : ht_D (upd r j (nI x)) (upd p j (nI y)) (upd q j (nI z)) (ht_up R j x) (ht_up P j y) (ht_up Q j z) := by
  intro i hi
  by_cases e : i = j
  · subst e; rw [pk_us, pk_us, pk_us, ht_upE, ht_upE, ht_upE]; exact ⟨rfl, rfl, rfl⟩
  · rw [pk_un e, pk_un e, pk_un e, ht_upN e, ht_upN e, ht_upN e]; exact h i hi
theorem ht_D_t {r p q : Nat → Int32} {R P Q : Nat → Nat} {j z : Nat} (h : ht_D r p q R P Q) : ht_D r p (upd q j (nI z)) R P (ht_up Q j z) := by
  intro i hi
  obtain ⟨a, b, c⟩ := h i hi
  by_cases e : i = j
  · subst e; rw [pk_us, ht_upE]; exact ⟨a, b, rfl⟩
  · rw [pk_un e, ht_upN e]; exact ⟨a, b, c⟩
theorem ht_D_r {r p q : Nat → Int32} {R P Q : Nat → Nat} {j z : Nat} (h : ht_D r p q R P Q) : ht_D (upd r j (nI z)) p q (ht_up R j z) P Q := by
  intro i hi
  obtain ⟨a, b, c⟩ := h i hi
  by_cases e : i = j
  · subst e; rw [pk_us, ht_upE]; exact ⟨rfl, b, c⟩
  · rw [pk_un e, ht_upN e]; exact ⟨a, b, c⟩
theorem ht_YD_t {pt : Nat → Int32} {R P Q : Nat → Nat} {j z : Nat} (h : ht_YD pt R P Q) : ht_YD (upd pt (3 * j + 2) (nI z)) R P (ht_up Q j z) := by
  intro i hi
  obtain ⟨a, b, c⟩ := h i hi
  rw [pk_un (show 3 * i ≠ 3 * j + 2 by omega), pk_un (show 3 * i + 1 ≠ 3 * j + 2 by omega)]
  by_cases e : i = j
  · subst e; rw [pk_us, ht_upE]; exact ⟨a, b, rfl⟩
  · rw [pk_un (by omega), ht_upN e]; exact ⟨a, b, c⟩
theorem ht_YD_p {pt : Nat → Int32} {R P Q : Nat → Nat} {j z : Nat} (h : ht_YD pt R P Q) : ht_YD (upd pt (3 * j + 1) (nI z)) R (ht_up P j z) Q := by
  intro i hi
  obtain ⟨a, b, c⟩ := h i hi
  rw [pk_un (show 3 * i ≠ 3 * j + 1 by omega), pk_un (show 3 * i + 2 ≠ 3 * j + 1 by omega)]
  by_cases e : i = j
  · subst e; rw [pk_us, ht_upE]; exact ⟨a, rfl, c⟩
  · rw [pk_un (by omega), ht_upN e]; exact ⟨a, b, c⟩
theorem ht_YD_r {pt : Nat → Int32} {R P Q : Nat → Nat} {j z : Nat} (h : ht_YD pt R P Q) : ht_YD (upd pt (3 * j) (nI z)) (ht_up R j z) P Q := by
  intro i hi
  obtain ⟨a, b, c⟩ := h i hi
  rw [pk_un (show 3 * i + 1 ≠ 3 * j by omega), pk_un (show 3 * i + 2 ≠ 3 * j by omega)]
  by_cases e : i = j
  · subst e; rw [pk_us, ht_upE]; exact ⟨rfl, b, c⟩
  · rw [pk_un (by omega), ht_upN e]; exact ⟨a, b, c⟩
theorem ht_xwrite {post : SX → Prop} {j : Nat} {f x y z : Int32} {a r p q o b w : Nat → Int32} (hj : j < 6) (h : post (f, a, upd r j x, upd p j y, upd q j z, o, b, w)) : wpX_write post (f, a, r, p, q, o, b, w) (nI j) x y z := by
  have cj : (nI j).toNatClampNeg = j := nI_clamp (by omega)
  have vj : vp_in (nI j) 6 := vp_in_nI hj (by omega)
  unfold wpX_write
  dsimp only
  rw [cj]
  exact ⟨vj, nm_e ⟨vj, nm_e ⟨vj, nm_e h⟩⟩⟩
theorem ht_yhold {post : SY → Prop} {j : Nat} {fn fo x y z : Int32} {a pt l st : Nat → Int32} (hj : j < 6) (h : post (fn, fo, a, upd (upd (upd pt (3 * j) x) (3 * j + 1) y) (3 * j + 2) z, l, st)) : wpY_hold post (fn, fo, a, pt, l, st) (nI j) x y z := by
  have e0 : (3 : Int32) * nI j = nI (3 * j) := pk_mul 3 j
  have e1 : nI (3 * j) + 1 = nI (3 * j + 1) := nI_1 _
  have e2 : nI (3 * j) + 2 = nI (3 * j + 2) := nI_add _ 2
  have v0 : vp_in (nI (3 * j)) 18 := vp_in_nI (by omega) (by omega)
  have v1 : vp_in (nI (3 * j + 1)) 18 := vp_in_nI (by omega) (by omega)
  have v2 : vp_in (nI (3 * j + 2)) 18 := vp_in_nI (by omega) (by omega)
  have c0 : (nI (3 * j)).toNatClampNeg = 3 * j := nI_clamp (by omega)
  have c1 : (nI (3 * j + 1)).toNatClampNeg = 3 * j + 1 := nI_clamp (by omega)
  have c2 : (nI (3 * j + 2)).toNatClampNeg = 3 * j + 2 := nI_clamp (by omega)
  unfold wpY_hold
  dsimp only
  rw [e0, e1, e2, c0, c1, c2]
  exact ⟨v0, nm_e ⟨v1, nm_e ⟨v2, nm_e h⟩⟩⟩
theorem ht_b1 : vp_nar .boolean 1 = 1 := rfl
theorem ht_b0 : vp_nar .boolean 0 = 0 := rfl
theorem ht_xaddL {post : Int32 → SX → Prop} {s : Nat} {f x y z : Int32} {a r p q o b w : Nat → Int32} (hA : ht_PR a s) (K0 : (∀ i, i < 6 → s.testBit i = true) → post (-2) (f, a, r, p, q, o, b, w)) (K1 : ∀ j, j < 6 → ¬ s.testBit j = true → (∀ i, i < j → s.testBit i = true) → post (nI j) (f + 1, upd a j 1, upd r j x, upd p j y, upd q j z, o, b, w)) : ∀ d j, j + d = 6 → (∀ i, i < j → s.testBit i = true) → wX_add_15 post x y z f a r p q o b w (d + 1) (nI j) := by
  intro d
  induction d with
  | zero =>
    intro j hj h
    have e : j = 6 := by omega
    subst e
    exact br_t (by decide) (K0 h)
  | succ d ih =>
    intro j hj h
    have j6 : j < 6 := by omega
    have cj : (nI j).toNatClampNeg = j := nI_clamp (by omega)
    have vj : vp_in (nI j) 6 := vp_in_nI j6 (by omega)
    refine br_f (nI_ge (b := 6) j6 (by decide)) ⟨vj, ?_⟩
    rw [cj]
    by_cases t : s.testBit j = true
    · refine br_f (fun z' => (ht_PRz hA j6).mp z' t) (nm_r (nI_1 _) (ih (j + 1) (by omega) (fun i hi => ?_)))
      by_cases e : i = j
      · subst e; exact t
      · exact h i (by omega)
    · exact br_t ((ht_PRz hA j6).mpr t) ⟨vj, nm_e (nm_e (ht_xwrite j6 (K1 j j6 t h)))⟩
theorem ht_yaddL {post : Int32 → SY → Prop} {s : Nat} {fn fo x y z : Int32} {a pt l st : Nat → Int32} (hA : ht_PR a s) (K0 : (∀ i, i < 6 → s.testBit i = true) → post (-2) (fn, fo, a, pt, l, st)) (K1 : ∀ j, j < 6 → ¬ s.testBit j = true → (∀ i, i < j → s.testBit i = true) → post (nI j) (fn, fo, upd a j 1, upd (upd (upd pt (3 * j) x) (3 * j + 1) y) (3 * j + 2) z, l, st)) : ∀ d j, j + d = 6 → (∀ i, i < j → s.testBit i = true) → wY_add_15 post x y z fn fo a pt l st (d + 1) (nI j) := by
  intro d
  induction d with
  | zero =>
    intro j hj h
    have e : j = 6 := by omega
    subst e
    exact br_t (by decide) (K0 h)
  | succ d ih =>
    intro j hj h
    have j6 : j < 6 := by omega
    have cj : (nI j).toNatClampNeg = j := nI_clamp (by omega)
    have vj : vp_in (nI j) 6 := vp_in_nI j6 (by omega)
    refine br_f (nI_ge (b := 6) j6 (by decide)) ⟨vj, ?_⟩
    rw [cj]
    by_cases t : s.testBit j = true
    · refine br_f (fun z' => (ht_PRz hA j6).mp z' t) (nm_r (nI_1 _) (ih (j + 1) (by omega) (fun i hi => ?_)))
      by_cases e : i = j
      · subst e; exact t
      · exact h i (by omega)
    · exact br_t ((ht_PRz hA j6).mpr t) ⟨vj, nm_e (ht_yhold j6 (K1 j j6 t h))⟩
