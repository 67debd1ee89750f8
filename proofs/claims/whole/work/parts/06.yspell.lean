/-! Y: jobs, count, nth, spell, place -/
def ht_YD (pt : Nat → Int32) (R P Q : Nat → Nat) : Prop := ∀ j, j < 6 → pt (3 * j) = nI (R j) ∧ pt (3 * j + 1) = nI (P j) ∧ pt (3 * j + 2) = nI (Q j)
theorem ht_yjobsL {post : Int32 → Prop} {s : Nat} {fn fo : Int32} {a pt l st : Nat → Int32} (hs : s < 64) (hA : ht_PR a s) (h : post (nI s)) : ∀ d j, j + d = 6 → wY_jobs_4 post fn fo a pt l st (d + 1) (nI (s % 2 ^ j)) (nI j) := by
  intro d
  induction d with
  | zero =>
    intro j hj
    have e : j = 6 := by omega
    subst e
    have e2 : s % 2 ^ 6 = s := Nat.mod_eq_of_lt hs
    rw [e2]
    exact br_t (by decide) h
  | succ d ih =>
    intro j hj
    have cj : (nI j).toNatClampNeg = j := nI_clamp (by omega)
    refine br_f (nI_ge (b := 6) (by omega) (by decide)) ⟨vp_in_nI (by omega) (by omega), ?_⟩
    rw [cj]
    by_cases z : s.testBit j = true
    · refine br_f (fun z' => (ht_PRz hA (by omega)).mp z' z) (nm_r (ht_orI hs (by omega) z) (nm_r (nI_1 _) ?_))
      exact ih (j + 1) (by omega)
    · refine br_t ((ht_PRz hA (by omega)).mpr z) (nm_r (e' := nI (s % 2 ^ (j + 1))) ?_ (nm_r (nI_1 _) ?_))
      · rw [Int32.or_zero, ht_orN hs (by omega) z]
      · exact ih (j + 1) (by omega)
theorem ht_yjobs {post : Int32 → Prop} {s : Nat} {fn fo : Int32} {a pt l st : Nat → Int32} (hs : s < 64) (hA : ht_PR a s) (h : post (nI s)) : wpY_jobs post (fn, fo, a, pt, l, st) := by
  have := ht_yjobsL (fn := fn) (fo := fo) (pt := pt) (l := l) (st := st) hs hA h 6 0 rfl
  rw [show s % 2 ^ 0 = 0 from Nat.mod_one s] at this
  exact ⟨7, this⟩
theorem ht_xjobsL {post : Int32 → Prop} {s : Nat} {f : Int32} {a r p q o b w : Nat → Int32} (hs : s < 64) (hA : ht_PR a s) (h : post (nI s)) : ∀ d j, j + d = 6 → wX_jobs_4 post f a r p q o b w (d + 1) (nI (s % 2 ^ j)) (nI j) := by
  intro d
  induction d with
  | zero =>
    intro j hj
    have e : j = 6 := by omega
    subst e
    have e2 : s % 2 ^ 6 = s := Nat.mod_eq_of_lt hs
    rw [e2]
    exact br_t (by decide) h
  | succ d ih =>
    intro j hj
    have cj : (nI j).toNatClampNeg = j := nI_clamp (by omega)
    refine br_f (nI_ge (b := 6) (by omega) (by decide)) ⟨vp_in_nI (by omega) (by omega), ?_⟩
    rw [cj]
    by_cases z : s.testBit j = true
    · refine br_f (fun z' => (ht_PRz hA (by omega)).mp z' z) (nm_r (ht_orI hs (by omega) z) (nm_r (nI_1 _) ?_))
      exact ih (j + 1) (by omega)
    · refine br_t ((ht_PRz hA (by omega)).mpr z) (nm_r (nI_1 _) ?_)
      have := ih (j + 1) (by omega)
      rw [← ht_orN hs (by omega) z] at this
      exact this
theorem ht_xjobs {post : Int32 → Prop} {s : Nat} {f : Int32} {a r p q o b w : Nat → Int32} (hs : s < 64) (hA : ht_PR a s) (h : post (nI s)) : wpX_jobs post (f, a, r, p, q, o, b, w) := by
  have := ht_xjobsL (f := f) (r := r) (p := p) (q := q) (o := o) (b := b) (w := w) hs hA h 6 0 rfl
  rw [show s % 2 ^ 0 = 0 from Nat.mod_one s] at this
  exact ⟨7, this⟩
theorem ht_ycountL {post : SY → Prop} {s : Nat} {a pt l st : Nat → Int32} (hA : ht_PR a s) (h : post (nI (ht_cn s), nI (ht_N s), a, pt, l, st)) : ∀ d j, j + d = 6 → wY_count_12 post a pt l st (d + 1) (nI j) (nI (ht_el s j).length) (nI (ht_fact (ht_el s j).length)) := by
  intro d
  induction d with
  | zero =>
    intro j hj
    have e : j = 6 := by omega
    subst e
    exact br_t (by decide) h
  | succ d ih =>
    intro j hj
    have cj : (nI j).toNatClampNeg = j := nI_clamp (by omega)
    have vj : vp_in (nI j) 6 := vp_in_nI (by omega) (by omega)
    refine br_f (nI_ge (b := 6) (by omega) (by decide)) ⟨vj, ?_⟩
    rw [cj]
    by_cases z : s.testBit j = true
    · have z' : ¬ a j = 0 := fun z' => (ht_PRz hA (by omega)).mp z' z
      refine br_f z' (nm_r (nI_1 _) ⟨vj, ?_⟩)
      rw [cj]
      refine br_f z' (nm_r (pk_mul _ _) (nm_r (nI_1 _) ?_))
      have := ih (j + 1) (by omega)
      rw [ht_el_t z, List.length_append] at this
      exact this
    · have z' : a j = 0 := (ht_PRz hA (by omega)).mpr z
      refine br_t z' (nm_r (Int32.add_zero _) ⟨vj, ?_⟩)
      rw [cj]
      refine br_t z' (nm_r (nI_1 _) ?_)
      have := ih (j + 1) (by omega)
      rw [ht_el_f z] at this
      exact this
theorem ht_ycount {post : SY → Prop} {s : Nat} {fn fo : Int32} {a pt l st : Nat → Int32} (hA : ht_PR a s) (h : post (nI (ht_cn s), nI (ht_N s), a, pt, l, st)) : wpY_count post (fn, fo, a, pt, l, st) :=
  ⟨7, ht_ycountL hA h 6 0 rfl⟩
theorem ht_ynthL {post : Int32 → Prop} {s : Nat} {fn fo : Int32} {a pt l st : Nat → Int32} (hs : s < 64) : ∀ m j x k, j + m = 6 → x + k < 1000 → post (nI (ht_nt m s k j)) → wY_nth_5 post (nI s) (nI (x + k)) fn fo a pt l st (m + 1) (nI x) (nI j) := by
  intro m
  induction m with
  | zero =>
    intro j x k hj hx h
    have e : j = 6 := by omega
    subst e
    exact br_t (by decide) h
  | succ m ih =>
    intro j x k hj hx h
    refine br_f (nI_ge (b := 6) (by omega) (by decide)) ?_
    unfold ht_nt at h
    by_cases z : s.testBit j = true
    · rw [if_pos z] at h
      refine br_t ((ht_bit hs (by omega)).mpr z) (pk_eq x (x + k) (fun e => ?_) (fun e => nm_r (nI_1 _) (nm_r (nI_1 _) ?_)))
      · rw [if_pos (by omega)] at h; exact h
      · rw [if_neg (by omega)] at h
        have := ih (j + 1) (x + 1) (k - 1) (by omega) (by omega) h
        rw [show x + 1 + (k - 1) = x + k by omega] at this
        exact this
    · rw [if_neg z] at h
      exact br_f (fun z' => z ((ht_bit hs (by omega)).mp z')) (nm_r (nI_1 _) (ih (j + 1) x k (by omega) hx h))
theorem ht_ynth {post : Int32 → Prop} {s k : Nat} {fn fo : Int32} {a pt l st : Nat → Int32} (hs : s < 64) (hk : k < 1000) (h : post (nI (ht_nt 6 s k 0))) : wpY_nth post (fn, fo, a, pt, l, st) (nI s) (nI k) := by
  have := ht_ynthL (post := post) (fn := fn) (fo := fo) (a := a) (pt := pt) (l := l) (st := st) hs 6 0 0 k rfl (by omega) h
  rw [Nat.zero_add] at this
  exact ⟨7, this⟩
theorem ht_nt_lt : ∀ m s k j, j + m = 6 → ht_nt m s k j < 6 := by
  intro m
  induction m with
  | zero => intro s k j _; show 0 < 6; omega
  | succ m ih =>
    intro s k j hj
    unfold ht_nt
    split
    · split
      · omega
      · exact ih _ _ _ (by omega)
    · exact ih _ _ _ (by omega)
theorem ht_fact_pos : ∀ m, 0 < ht_fact m := by
  intro m
  induction m with
  | zero => exact Nat.one_pos
  | succ m ih => exact Nat.mul_pos ih (Nat.succ_pos _)
theorem ht_fact_le : ∀ m, m ≤ 6 → ht_fact m ≤ 720 := by decide
def ht_yl (l : Nat → Int32) (k : Nat) : List Nat → Nat → Int32
  | [] => l
  | j :: L => ht_yl (upd l k (nI j)) (k + 1) L
def ht_ys (R P : Nat → Nat) (st : Nat → Int32) (t : Nat) : List Nat → Nat → Int32
  | [] => st
  | j :: L => ht_ys R P (upd st j (nI (max t (R j)))) (max t (R j) + P j) L
theorem ht_y130 {post : Int32 → SY → Prop} {J : Int32 → Int32 → Int32 → Int32 → Int32 → Int32 → (Nat → Int32) → (Nat → Int32) → (Nat → Int32) → (Nat → Int32) → Prop} {x2 x3 x4 fn fo : Int32} {g k j T : Nat} {a pt l st : Nat → Int32} {R P Q : Nat → Nat} (hY : ht_YD pt R P Q) (hB : ht_bd R P Q) (hj : j < 6) (hg : g < 10000) (hT : T < 10000)
    (h : J x2 x3 x4 (nI (T + P j)) (nI (max g (T + P j + Q j))) (nI (k + 1)) a pt l (upd st j (nI T))) : wY_spell_130 post J x2 x3 x4 (nI g) (nI k) (nI j) (nI T) (nI j) fn fo a pt l st := by
  obtain ⟨-, eP, eQ⟩ := hY j hj
  obtain ⟨bR, bP, bQ⟩ := hB j hj
  have cj : (nI j).toNatClampNeg = j := nI_clamp (by omega)
  have vj : vp_in (nI j) 6 := vp_in_nI hj (by omega)
  have e1 : (3 : Int32) * nI j + 1 = nI (3 * j + 1) := by rw [show (3 : Int32) * nI j = nI (3 * j) from pk_mul 3 j, nI_1]
  have e2 : (3 : Int32) * nI j + 2 = nI (3 * j + 2) := by rw [show (3 : Int32) * nI j = nI (3 * j) from pk_mul 3 j]; exact nI_add _ 2
  have v1 : vp_in (nI (3 * j + 1)) 18 := vp_in_nI (by omega) (by omega)
  have v2 : vp_in (nI (3 * j + 2)) 18 := vp_in_nI (by omega) (by omega)
  have c1 : (nI (3 * j + 1)).toNatClampNeg = 3 * j + 1 := nI_clamp (by omega)
  have c2 : (nI (3 * j + 2)).toNatClampNeg = 3 * j + 2 := nI_clamp (by omega)
  unfold wY_spell_130
  rw [cj, e1, e2, c1, c2, eP, eQ]
  refine ⟨vj, nm_e ⟨vj, v1, nm_r (e' := nI (T + P j)) (by rw [pk_us, nI_add]) ⟨v2, ?_⟩⟩⟩
  refine pk_le (T + P j + Q j) g (fun z => nm_r (nI_1 _) ?_) (fun z => ⟨v2, nm_r (nI_add _ _) (nm_r (nI_1 _) ?_)⟩) (nI_add _ _)
  · rw [Nat.max_eq_left z] at h; exact h
  · rw [Nat.max_eq_right (by omega)] at h; exact h
theorem ht_y65 {post : Int32 → SY → Prop} {J : Int32 → Int32 → Int32 → Int32 → Int32 → Int32 → (Nat → Int32) → (Nat → Int32) → (Nat → Int32) → (Nat → Int32) → Prop} {x3 z0 fn fo : Int32} {s t g k y j : Nat} {a pt l st : Nat → Int32} {R P Q : Nat → Nat} (hY : ht_YD pt R P Q) (hB : ht_bd R P Q) (hs : s < 64) (hj : j = ht_nt 6 s y 0) (hy : y < 1000) (hk : k < 6) (hg : g < 10000) (ht : t < 9000)
    (h : J z0 x3 (nI (ht_rm s j)) (nI (max t (R j) + P j)) (nI (max g (max t (R j) + P j + Q j))) (nI (k + 1)) a pt (upd l k (nI j)) (upd st j (nI (max t (R j))))) : wY_spell_65 post J x3 (nI s) (nI t) (nI g) (nI k) (nI y) z0 fn fo a pt l st := by
  have j6 : j < 6 := by rw [hj]; exact ht_nt_lt 6 s y 0 rfl
  obtain ⟨eR, -, -⟩ := hY j j6
  obtain ⟨bR, bP, bQ⟩ := hB j j6
  have e0 : (3 : Int32) * nI j = nI (3 * j) := pk_mul 3 j
  have v0 : vp_in (nI (3 * j)) 18 := vp_in_nI (by omega) (by omega)
  have c0 : (nI (3 * j)).toNatClampNeg = 3 * j := nI_clamp (by omega)
  have ck : (nI k).toNatClampNeg = k := nI_clamp (by omega)
  refine ht_ynth hs hy ?_
  rw [← hj, e0, c0, eR, ck]
  refine nm_r (ht_rmI hs j6).1 ⟨vp_in_nI hk (by omega), nm_e ⟨v0, pk_le (R j) t (fun z => ?_) (fun z => ⟨v0, ?_⟩)⟩⟩
  · refine ht_y130 hY hB j6 hg (by omega) ?_
    rw [Nat.max_eq_left z] at h; exact h
  · refine ht_y130 hY hB j6 hg (by omega) ?_
    rw [Nat.max_eq_right (by omega)] at h; exact h
theorem ht_yspellL {post : Int32 → SY → Prop} {fo : Int32} {n : Nat} {a pt : Nat → Int32} {R P Q : Nat → Nat} (hY : ht_YD pt R P Q) (hB : ht_bd R P Q) (hn : n ≤ 6) : ∀ (m k s c t g : Nat) (l st : Nat → Int32), k + m = n → s < 64 → c < ht_fact m → t ≤ 400 * k → g ≤ 400 * k + 200 → post (nI (ht_ln R P Q (ht_un m s c) t g)) (nI n, fo, a, pt, ht_yl l k (ht_un m s c), ht_ys R P st t (ht_un m s c)) → wY_spell_22 post (nI n) fo (m + 1) (nI c) (nI (ht_fact m)) (nI s) (nI t) (nI g) (nI k) a pt l st := by
  intro m
  induction m with
  | zero =>
    intro k s c t g l st hk hs hc ht hg h
    exact br_t (nI_le (by omega) (by omega)) h
  | succ m ih =>
    intro k s c t g l st hk hs hc ht hg h
    have hf := ht_fact_pos m
    have hfl := ht_fact_le (m + 1) (by omega)
    have hfe : ht_fact (m + 1) = ht_fact m * (m + 1) := rfl
    have hfm := ht_fact_le m (by omega)
    have ed : nI n - nI k = nI (m + 1) := by rw [pk_sub (by omega)]; exact congrArg nI (by omega)
    have edv : nI (ht_fact (m + 1)) / nI (m + 1) = nI (ht_fact m) := by
      rw [pk_div (by omega) (by omega) (by omega), hfe, Nat.mul_div_cancel _ (by omega)]
    have nle : ¬ nI (ht_fact m) ≤ 0 := nI_nle hf (by omega)
    have nz : ¬ nI (ht_fact m) = 0 := nI_ne0 hf (by omega)
    have hcd : c / ht_fact m ≤ c := Nat.div_le_self _ _
    refine br_f (nI_ge (by omega) (by omega)) ?_
    rw [ed, edv]
    refine ⟨nI_ne0 (by omega) (by omega), nm_e (br_f nle ⟨nz, ?_⟩)⟩
    rw [pk_div (by omega) hf (by omega)]
    refine br_f nle ⟨nz, ?_⟩
    rw [pk_rem (by omega) hf (by omega)]
    have j6 : ht_nt 6 s (c / ht_fact m) 0 < 6 := ht_nt_lt 6 s _ 0 rfl
    obtain ⟨bR, bP, bQ⟩ := hB _ j6
    refine ht_y65 hY hB hs rfl (by omega) (by omega) (by omega) (by omega) ?_
    exact ih (k + 1) _ _ _ _ _ _ (by omega) (ht_rmI hs j6).2 (Nat.mod_lt _ hf) (by omega) (by omega) h
theorem ht_yspell {post : Int32 → SY → Prop} {s c : Nat} {a pt l st : Nat → Int32} {R P Q : Nat → Nat} (hs : s < 64) (hA : ht_PR a s) (hY : ht_YD pt R P Q) (hB : ht_bd R P Q) (hc : c < ht_N s) (h : post (nI (ht_L R P Q s c)) (nI (ht_cn s), nI (ht_N s), a, pt, ht_yl l 0 (ht_or s c), ht_ys R P st 0 (ht_or s c))) : wpY_spell post (nI (ht_cn s), nI (ht_N s), a, pt, l, st) (nI c) := by
  refine ht_yjobs hs hA ⟨ht_cn s + 1, ?_⟩
  exact ht_yspellL hY hB (ht_nums hs).2.2.2 (ht_cn s) 0 s c 0 0 l st (by omega) hs hc (by omega) (by omega) h
theorem ht_yl_lo : ∀ (L : List Nat) (k : Nat) (l : Nat → Int32) (i : Nat), i < k → ht_yl l k L i = l i := by
  intro L
  induction L with
  | nil => intro k l i _; rfl
  | cons x L ih =>
    intro k l i hi
    show ht_yl (upd l k (nI x)) (k + 1) L i = l i
    rw [ih (k + 1) _ i (by omega), pk_un (by omega)]
theorem ht_yl_hi : ∀ (L : List Nat) (k : Nat) (l : Nat → Int32) (i : Nat), i < L.length → ht_yl l k L (k + i) = nI (ht_at L i) := by
  intro L
  induction L with
  | nil => intro k l i hi; exact absurd hi (Nat.not_lt_zero _)
  | cons x L ih =>
    intro k l i hi
    show ht_yl (upd l k (nI x)) (k + 1) L (k + i) = _
    cases i with
    | zero => rw [ht_yl_lo L (k + 1) _ (k + 0) (by omega), Nat.add_zero, pk_us]; rfl
    | succ i =>
      rw [show k + (i + 1) = k + 1 + i by omega, ih (k + 1) _ i (Nat.lt_of_succ_lt_succ hi)]
      rfl
theorem ht_yl_OA (L : List Nat) (l : Nat → Int32) : ht_OA (ht_yl l 0 L) L := fun i hi => by
  have := ht_yl_hi L 0 l i hi
  rw [Nat.zero_add] at this
  exact this
def ht_pl : List Nat → Nat → Nat → Nat → Nat
  | [], _, _, at_ => at_
  | x :: l, i, k, at_ => ht_pl l i (k + 1) (if x = i then k else at_)
theorem ht_yplL {post : Int32 → Prop} {n i : Nat} {fo : Int32} {a pt l st : Nat → Int32} (hn : n ≤ 6) (hi : i < 6) : ∀ (L : List Nat) (m k z : Nat), L.length < m → (∀ i, i < L.length → l (k + i) = nI (ht_at L i)) → (∀ i, i < L.length → ht_at L i < 6) → k + L.length = n → post (nI (ht_pl L i k z)) → wY_place_5 post (nI i) (nI n) fo a pt l st m (nI z) (nI k) := by
  intro L
  induction L with
  | nil =>
    intro m k z hm ho h6 hk h
    obtain ⟨m, rfl⟩ : ∃ m', m = m' + 1 := ⟨m - 1, by omega⟩
    have hk' : k = n := hk
    exact br_t (nI_le (by omega) (by omega)) h
  | cons x L ih =>
    intro m k z hm ho h6 hk h
    obtain ⟨m, rfl⟩ : ∃ m', m = m' + 1 := ⟨m - 1, by omega⟩
    have hk' : k + (L.length + 1) = n := hk
    have hm' : L.length + 1 < m + 1 := hm
    have hx6 : x < 6 := h6 0 (Nat.succ_pos _)
    have e0 : l (nI k).toNatClampNeg = nI x := by rw [nI_clamp (by omega)]; exact ho 0 (Nat.succ_pos _)
    have hO : ∀ i, i < L.length → l (k + 1 + i) = nI (ht_at L i) := fun i hi => by
      have := ho (i + 1) (Nat.succ_lt_succ hi)
      rw [show k + 1 + i = k + (i + 1) by omega]
      exact this
    have h7 : ∀ i, i < L.length → ht_at L i < 6 := fun i hi => h6 (i + 1) (Nat.succ_lt_succ hi)
    unfold ht_pl at h
    refine br_f (nI_ge (by omega) (by omega)) ⟨vp_in_nI (by omega) (by omega), pk_eq x i (fun e => nm_r (nI_1 _) ?_) (fun e => nm_r (nI_1 _) ?_) e0⟩
    · rw [if_pos e] at h; exact ih m (k + 1) k (by omega) hO h7 (by omega) h
    · rw [if_neg e] at h; exact ih m (k + 1) z (by omega) hO h7 (by omega) h
theorem ht_yplace {post : Int32 → Prop} {n i : Nat} {fo : Int32} {a pt l st : Nat → Int32} {L : List Nat} (hn : n ≤ 6) (hi : i < 6) (hl : L.length = n) (ho : ht_OA l L) (h6 : ht_B6 L) (h : post (nI (ht_pl L i 0 6))) : wpY_place post (nI n, fo, a, pt, l, st) (nI i) :=
  ⟨L.length + 1, ht_yplL hn hi L (L.length + 1) 0 6 (by omega) (fun i hi => by rw [Nat.zero_add]; exact ho i hi) h6 (by omega) h⟩
theorem ht_pl_not : ∀ (L : List Nat) (i k z : Nat), L.contains i = false → ht_pl L i k z = z := by
  intro L
  induction L with
  | nil => intro i k z _; rfl
  | cons x L ih =>
    intro i k z h
    rw [List.contains_cons, Bool.or_eq_false_iff] at h
    unfold ht_pl
    rw [if_neg (fun e => by rw [e] at h; simp at h), ih _ _ _ h.2]
theorem ht_pl_ge : ∀ (L : List Nat) (i k z : Nat), k ≤ z → k ≤ ht_pl L i k z := by
  intro L
  induction L with
  | nil => intro i k z h; exact h
  | cons x L ih =>
    intro i k z h
    unfold ht_pl
    by_cases e : x = i
    · rw [if_pos e]
      have : ∀ (L : List Nat) (k z w : Nat), w ≤ k → w ≤ z → w ≤ ht_pl L i k z := by
        intro L
        induction L with
        | nil => intro k z w _ h; exact h
        | cons y L ih2 =>
          intro k z w h1 h2
          unfold ht_pl
          refine ih2 _ _ _ (by omega) ?_
          split <;> omega
      exact this L (k + 1) k k (by omega) (by omega)
    · rw [if_neg e]
      have : ∀ (L : List Nat) (k z w : Nat), w ≤ k → w ≤ z → w ≤ ht_pl L i k z := by
        intro L
        induction L with
        | nil => intro k z w _ h; exact h
        | cons y L ih2 =>
          intro k z w h1 h2
          unfold ht_pl
          refine ih2 _ _ _ (by omega) ?_
          split <;> omega
      exact this L (k + 1) z k (by omega) h
theorem ht_pl_ge' (L : List Nat) (i k z : Nat) (h : k ≤ z) : k ≤ ht_pl L i k z := ht_pl_ge L i k z h
theorem ht_cb_pl : ∀ (L : List Nat) (i j k : Nat), i ≠ j → ht_nd L = true → k + L.length ≤ 6 → (ht_cb L i j = true ↔ ht_pl L i k 6 < ht_pl L j k 6) := by
  intro L
  induction L with
  | nil =>
    intro i j k _ _ _
    show (false = true ↔ 6 < 6)
    exact ⟨fun h => absurd h (by decide), fun h => absurd h (by omega)⟩
  | cons x L ih =>
    intro i j k hij hnd hk
    have hk' : k + (L.length + 1) ≤ 6 := hk
    unfold ht_nd at hnd
    rw [Bool.and_eq_true, Bool.not_eq_true'] at hnd
    unfold ht_cb ht_pl
    by_cases e : x = i
    · have e2 : x ≠ j := fun z => hij (e.symm.trans z)
      rw [if_pos e, if_pos e, if_neg e2, ht_pl_not L i _ _ (by rw [← e]; exact hnd.1)]
      have := ht_pl_ge L j (k + 1) 6 (by omega)
      exact ⟨fun _ => by omega, fun _ => rfl⟩
    · rw [if_neg e, if_neg e]
      by_cases e2 : x = j
      · rw [if_pos e2, if_pos e2, ht_pl_not L j _ _ (by rw [← e2]; exact hnd.1)]
        have := ht_pl_ge L i (k + 1) 6 (by omega)
        exact ⟨fun h => absurd h (by decide), fun h => absurd h (by omega)⟩
      · rw [if_neg e2, if_neg e2]
        exact ih i j (k + 1) hij hnd.2 (by omega)
