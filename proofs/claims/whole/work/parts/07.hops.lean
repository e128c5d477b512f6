section
variable {J R : Nat} {fo ft ct ej ps : Nat → Nat} {sg : Nat → Bool} {rs rl sj se : Nat → Nat} {cb : Nat → Int32} {st : Nat → Bool} {wt : Nat → Nat} {hd : Nat → Bool} {lk hg un dn : Nat → Nat} {rv mt nx : Nat → Int32}
def ri_las (rl se : Nat → Nat) (r : Nat) : Nat := se (5 * r + rl r - 1)
def ri_ends (R : Nat) (rs rl se : Nat → Nat) (m : Nat → Bool) (n e : Nat) : Bool := ri_ba (fun r => m (rs r) && decide (ri_op (ri_las rl se r) = e)) n
def ri_stp (R : Nat) (rs rl se : Nat → Nat) (m : Nat → Bool) (e : Nat) : Bool := m e || ri_ends R rs rl se m R e
def ri_M (R : Nat) (rs rl se : Nat → Nat) (a : Nat) : Nat → Nat → Bool
  | 0 => fun e => decide (e = a)
  | k + 1 => ri_stp R rs rl se (ri_M R rs rl se a k)
theorem ri_bm_e {f : Nat → Bool} {n e : Nat} (he : e < n) : ri_bm f n ||| 2 ^ e = ri_bm (fun x => f x || decide (e = x)) n := by
  apply Nat.eq_of_testBit_eq
  intro q
  rw [Nat.testBit_or, ri_bm_b, ri_bm_b, Nat.testBit_two_pow]
  by_cases h : q < n
  · simp [h]
  · simp [h]; omega
theorem ri_bm_oo {f g : Nat → Bool} {n : Nat} : ri_bm f n ||| ri_bm g n = ri_bm (fun x => f x || g x) n := by
  apply Nat.eq_of_testBit_eq
  intro q
  rw [Nat.testBit_or, ri_bm_b, ri_bm_b, ri_bm_b]
  by_cases h : q < n <;> simp [h]
theorem ri_bm_t {f : Nat → Bool} {n q : Nat} (h : q < n) : (ri_bm f n / 2 ^ q % 2 = 0) ↔ f q = false := by
  rw [ri_tb, ri_bm_b, decide_eq_true h, Bool.true_and]
theorem ri_bm_1 {a n : Nat} (h : a < n) : 2 ^ a = ri_bm (fun e => decide (e = a)) n := by
  apply Nat.eq_of_testBit_eq
  intro q
  rw [ri_bm_b, Nat.testBit_two_pow]
  by_cases z : a = q
  · subst z; simp [h]
  · simp [z, Ne.symm z]
def ri_fnd (m : Nat → Bool) (s : Nat) : Bool := m (2 * s) || m (2 * s + 1)
theorem ri_bm_3 {f : Nat → Bool} {n s : Nat} (h : 2 * s + 1 < n) : (ri_bm f n / 2 ^ (2 * s) % 4 = 0) ↔ ri_fnd f s = false := by
  have e1 := ri_bm_t (f := f) (n := n) (q := 2 * s) (by omega)
  have e2 := ri_bm_t (f := f) (n := n) (q := 2 * s + 1) h
  rw [Nat.pow_succ, ← Nat.div_div_eq_div_mul] at e2
  simp only [ri_fnd, Bool.or_eq_false_iff, ← e1, ← e2]
  omega
theorem rx_ends {post : Int32 → Prop} {m : Nat → Bool} (hR : R ≤ 16) (RS : ∀ r, rs r < 20) (RL : ∀ r, rl r ≤ 5) (R1 : ∀ r, r < R → 1 ≤ rl r) (SE : ∀ i, se i < 20) (h : post (nI (ri_bm (ri_ends R rs rl se m R) 20))) : wpX_endsOneRouteFrom post (sX J R fo ft ct ej ps sg rs rl sj se cb st wt hd lk hg un dn) (nI (ri_bm m 20)) := by
  have hz : ri_bm (ri_ends R rs rl se m 0) 20 = 0 := by
    apply Nat.eq_of_testBit_eq
    intro q
    rw [ri_bm_b, Nat.zero_testBit]
    simp [ri_ends, ri_ba]
  have W := ri_fo (fun n r => wX_endsOneRouteFrom_4 post (nI (ri_bm m 20)) (nI J) (nI R) (ri_n fo) (ri_n ft) (ri_n ct) (ri_n ej) (ri_n ps) (ri_b sg) (ri_n rs) (ri_n rl) (ri_n sj) (ri_n se) cb (ri_b st) (ri_n wt) (ri_b hd) (ri_x lk) (ri_x hg) (ri_x un) (ri_n dn) n (nI (ri_bm (ri_ends R rs rl se m r) 20)) (nI r)) R ?_ ?_
  · rw [hz] at W; exact W
  · intro n
    simp only [wX_endsOneRouteFrom_4]
    simp (disch := omega) only [nI_leI]
    exact br_t (Nat.le_refl _) h
  · intro n r hr p
    have h1 := RS r
    have h2 := RL r
    have h3 := R1 r hr
    have h4 := SE (5 * r + rl r - 1)
    have h5 := ri_op_lt h4
    have h6 := ri_bm_lt m 20
    have h7 := ri_bm_lt (ri_ends R rs rl se m r) 20
    have h8 : ri_bm m 20 / 2 ^ rs r < 2 ^ 31 := by
      have := Nat.div_le_self (ri_bm m 20) (2 ^ rs r); omega
    have h9 := ri_p31 (n := ri_op (se (5 * r + rl r - 1))) (by omega)
    simp only [wX_endsOneRouteFrom_4]
    simp (disch := omega) only [nI_leI, nI_clamp, ri_n_ap, ri_in, ri_shr, ri_a1, ri_eq0, ri_bm_t, nI_1, ri_mul5, nI_add, ri_sub1, ri_op_x, ri_sh1]
    refine br_f (by omega) ⟨by omega, br_c (fun z => ?_) (fun z => ⟨by omega, by omega, nm_e ?_⟩)⟩
    · rw [show ri_ends R rs rl se m (r + 1) = ri_ends R rs rl se m r from by
        funext e; simp only [ri_ends, ri_ba, z, Bool.false_and, Bool.or_false]] at p
      exact nm_e p
    · rw [Bool.not_eq_false] at z
      simp (disch := omega) only [ri_op_x, ri_sh1, ri_or, ri_bm_e]
      rw [show ri_ends R rs rl se m (r + 1) = (fun x => ri_ends R rs rl se m r x || decide (ri_op (se (5 * r + rl r - 1)) = x)) from by
        funext e; simp only [ri_ends, ri_ba, z, Bool.true_and]; rfl] at p
      exact nm_e (nm_e p)
def ri_ans (v : Nat) : Int32 := if v = 0 then -2 else nI v
theorem rx_hops {post : Int32 → Prop} {a s : Nat} (ha : a < 20) (hs : s < 10) (hR : R ≤ 16) (RS : ∀ r, rs r < 20) (RL : ∀ r, rl r ≤ 5) (R1 : ∀ r, r < R → 1 ≤ rl r) (SE : ∀ i, se i < 20) (h0 : a / 2 = s → post 0) (h : a / 2 ≠ s → post (ri_ans (ri_ff (fun i => ri_fnd (ri_M R rs rl se a (i + 1)) s) 16))) : wpX_hops post (sX J R fo ft ct ej ps sg rs rl sj se cb st wt hd lk hg un dn) (nI a) (nI s) := by
  simp only [wpX_hops]
  refine rx_isE1 ha (br_f (by decide) (rx_isS1 hs (br_f (by decide) ⟨by decide, ?_⟩)))
  simp (disch := omega) only [ri_div2, nI_eq, ri_sh1]
  refine br_c h0 (fun z => nm_e ?_)
  have hp := h z
  have W := ri_sf (fun n i => wX_hops_34 post (nI s) (nI J) (nI R) (ri_n fo) (ri_n ft) (ri_n ct) (ri_n ej) (ri_n ps) (ri_b sg) (ri_n rs) (ri_n rl) (ri_n sj) (ri_n se) cb (ri_b st) (ri_n wt) (ri_b hd) (ri_x lk) (ri_x hg) (ri_x un) (ri_n dn) n (nI (ri_bm (ri_M R rs rl se a i) 20)) (nI (i + 1))) (fun v => post (ri_ans v)) (fun i => ri_fnd (ri_M R rs rl se a (i + 1)) s) 16 hp ?_ ?_ ?_
  · rw [show ri_M R rs rl se a 0 = (fun e => decide (e = a)) from rfl, ← ri_bm_1 ha] at W
    exact W
  · intro n p
    exact br_t (nI_lt (a := 16) (b := 17) (by omega) (by omega)) p
  · intro n i hi hf p
    have h6 := ri_bm_lt (ri_M R rs rl se a i) 20
    have h7 := ri_bm_lt (ri_ends R rs rl se (ri_M R rs rl se a i) R) 20
    have h8 : ri_bm (ri_M R rs rl se a (i + 1)) 20 / 2 ^ (2 * s) < 2 ^ 31 := by
      have := Nat.div_le_self (ri_bm (ri_M R rs rl se a (i + 1)) 20) (2 ^ (2 * s))
      have := ri_bm_lt (ri_M R rs rl se a (i + 1)) 20
      omega
    have h9 := ri_bm_lt (ri_M R rs rl se a (i + 1)) 20
    simp only [wX_hops_34]
    refine br_f (nI_nlt (b := i + 1) (a := 16) (by omega) (by omega)) (rx_ends hR RS RL R1 SE ?_)
    rw [ri_or (by omega) (by omega), ri_bm_oo]
    change ∀ x, x = nI (ri_bm (ri_M R rs rl se a (i + 1)) 20) → _
    refine nm_e ?_
    simp (disch := omega) only [ri_mul2', ri_shr, ri_a3, ri_eq0, ri_bm_3]
    exact br_f (by rw [hf]; decide) p
  · intro n i hi hf p
    have h6 := ri_bm_lt (ri_M R rs rl se a i) 20
    have h7 := ri_bm_lt (ri_ends R rs rl se (ri_M R rs rl se a i) R) 20
    have h8 : ri_bm (ri_M R rs rl se a (i + 1)) 20 / 2 ^ (2 * s) < 2 ^ 31 := by
      have := Nat.div_le_self (ri_bm (ri_M R rs rl se a (i + 1)) 20) (2 ^ (2 * s))
      have := ri_bm_lt (ri_M R rs rl se a (i + 1)) 20
      omega
    have h9 := ri_bm_lt (ri_M R rs rl se a (i + 1)) 20
    simp only [wX_hops_34]
    refine br_f (nI_nlt (b := i + 1) (a := 16) (by omega) (by omega)) (rx_ends hR RS RL R1 SE ?_)
    rw [ri_or (by omega) (by omega), ri_bm_oo]
    change ∀ x, x = nI (ri_bm (ri_M R rs rl se a (i + 1)) 20) → _
    refine nm_e ?_
    simp (disch := omega) only [ri_mul2', ri_shr, ri_a3, ri_eq0, ri_bm_3]
    exact br_t hf (nm_r (nI_1 _) p)
/-! the pure part -/
def ri_fy (R : Nat) (rs rl se : Nat → Nat) (m : Nat → Bool) (s n : Nat) : Bool := ri_ba (fun r => m (rs r) && decide (ri_las rl se r / 2 = s)) n
theorem ri_cn_mm {f g : Nat → Bool} : ∀ {n : Nat}, (∀ i, i < n → f i = true → g i = true) → ri_cn f n ≤ ri_cn g n ∧ (ri_cn f n = ri_cn g n → ∀ i, i < n → g i = f i) := by
  intro n
  induction n with
  | zero => intro _; exact ⟨Nat.le_refl _, fun _ i hi => by omega⟩
  | succ n ih =>
    intro h
    obtain ⟨h1, h2⟩ := ih (fun i hi => h i (by omega))
    have h3 := h n (by omega)
    simp only [ri_cn]
    cases ef : f n with
    | true =>
      rw [h3 ef]
      refine ⟨by omega, fun e i hi => ?_⟩
      by_cases z : i = n
      · rw [z, ef, h3 ef]
      · exact h2 (by omega) i (by omega)
    | false =>
      cases eg : g n with
      | true => exact ⟨by simp; omega, fun e => by simp at e; omega⟩
      | false =>
        refine ⟨by omega, fun e i hi => ?_⟩
        by_cases z : i = n
        · rw [z, ef, eg]
        · exact h2 (by omega) i (by omega)
theorem ri_stab {a : Nat} (k : Nat) : ri_M R rs rl se a (k + 1) = ri_M R rs rl se a k ∨ k + 1 ≤ ri_cn (fun r => ri_M R rs rl se a k (rs r)) R := by
  induction k with
  | zero =>
    by_cases z : 0 + 1 ≤ ri_cn (fun r => ri_M R rs rl se a 0 (rs r)) R
    · exact Or.inr z
    · left
      funext e
      have n0 : ∀ r, r < R → ri_M R rs rl se a 0 (rs r) = false := by
        intro r hr
        cases y : ri_M R rs rl se a 0 (rs r) with
        | false => rfl
        | true => have := ri_cn_l (f := fun r => ri_M R rs rl se a 0 (rs r)) hr y; omega
      have : ri_ends R rs rl se (ri_M R rs rl se a 0) R e = false := by
        refine ri_ba_f.mpr (fun r hr => ?_)
        rw [n0 r hr, Bool.false_and]
      show (ri_M R rs rl se a 0 e || ri_ends R rs rl se (ri_M R rs rl se a 0) R e) = _
      rw [this, Bool.or_false]
  | succ k ih =>
    rcases ih with ih | ih
    · left
      show ri_stp R rs rl se (ri_M R rs rl se a (k + 1)) = _
      rw [ih]
      exact ih
    · have mono : ∀ r, r < R → ri_M R rs rl se a k (rs r) = true → ri_M R rs rl se a (k + 1) (rs r) = true := by
        intro r _ y
        show (ri_M R rs rl se a k (rs r) || _) = true
        rw [y, Bool.true_or]
      obtain ⟨h1, h2⟩ := ri_cn_mm (f := fun r => ri_M R rs rl se a k (rs r)) (g := fun r => ri_M R rs rl se a (k + 1) (rs r)) mono
      by_cases z : k + 1 + 1 ≤ ri_cn (fun r => ri_M R rs rl se a (k + 1) (rs r)) R
      · exact Or.inr z
      · left
        have h3 := h2 (by omega)
        funext e
        show (ri_M R rs rl se a (k + 1) e || ri_ends R rs rl se (ri_M R rs rl se a (k + 1)) R e) = _
        have : ri_ends R rs rl se (ri_M R rs rl se a (k + 1)) R e = ri_ends R rs rl se (ri_M R rs rl se a k) R e := by
          refine ri_ba_c (fun r hr => ?_)
          have := h3 r hr
          rw [this]
        rw [this]
        show (ri_M R rs rl se a (k + 1) e || ri_ends R rs rl se (ri_M R rs rl se a k) R e) = (ri_M R rs rl se a k e || ri_ends R rs rl se (ri_M R rs rl se a k) R e)
        show ((ri_M R rs rl se a k e || ri_ends R rs rl se (ri_M R rs rl se a k) R e) || ri_ends R rs rl se (ri_M R rs rl se a k) R e) = (ri_M R rs rl se a k e || ri_ends R rs rl se (ri_M R rs rl se a k) R e)
        rw [Bool.or_assoc, Bool.or_self]
theorem ri_stab2 {a : Nat} (hR : R ≤ 16) (d : Nat) : ri_M R rs rl se a (16 + d) = ri_M R rs rl se a 16 := by
  have h17 : ri_M R rs rl se a 17 = ri_M R rs rl se a 16 := by
    rcases ri_stab (R := R) (rs := rs) (rl := rl) (se := se) (a := a) 16 with z | z
    · exact z
    · have := ri_cn_n (fun r => ri_M R rs rl se a 16 (rs r)) R; omega
  induction d with
  | zero => rfl
  | succ d ih =>
    show ri_stp R rs rl se (ri_M R rs rl se a (16 + d)) = _
    rw [ih]
    exact h17
theorem ri_fy1 {m : Nat → Bool} {s : Nat} (h : ri_fy R rs rl se m s R = true) : ri_fnd (ri_stp R rs rl se m) s = true := by
  obtain ⟨r, hr, h2⟩ := ri_ba_t.mp h
  simp only [Bool.and_eq_true, decide_eq_true_eq] at h2
  have hd := ri_op_d (ri_las rl se r)
  have : ri_stp R rs rl se m (ri_op (ri_las rl se r)) = true := by
    unfold ri_stp
    rw [show ri_ends R rs rl se m R (ri_op (ri_las rl se r)) = true from ri_ba_t.mpr ⟨r, hr, by simp [h2.1]⟩, Bool.or_true]
  simp only [ri_fnd, Bool.or_eq_true]
  by_cases z : ri_op (ri_las rl se r) = 2 * s
  · rw [z] at this; exact Or.inl this
  · rw [show ri_op (ri_las rl se r) = 2 * s + 1 by omega] at this; exact Or.inr this
theorem ri_fy2 {m : Nat → Bool} {s : Nat} (h : ri_fnd (ri_stp R rs rl se m) s = true) : ri_fnd m s = true ∨ ri_fy R rs rl se m s R = true := by
  have w : ∀ e, e / 2 = s → ri_stp R rs rl se m e = true → m e = true ∨ ri_fy R rs rl se m s R = true := by
    intro e he h
    simp only [ri_stp, Bool.or_eq_true] at h
    rcases h with h | h
    · exact Or.inl h
    · right
      obtain ⟨r, hr, h2⟩ := ri_ba_t.mp h
      simp only [Bool.and_eq_true, decide_eq_true_eq] at h2
      have hd := ri_op_d (ri_las rl se r)
      refine ri_ba_t.mpr ⟨r, hr, ?_⟩
      simp only [Bool.and_eq_true, decide_eq_true_eq]
      exact ⟨h2.1, by rw [← hd, h2.2]; exact he⟩
  simp only [ri_fnd, Bool.or_eq_true] at h ⊢
  rcases h with h | h
  · rcases w _ (by omega) h with y | y
    · exact Or.inl (Or.inl y)
    · exact Or.inr y
  · rcases w _ (by omega) h with y | y
    · exact Or.inl (Or.inr y)
    · exact Or.inr y
theorem ri_hopeq {a s : Nat} (hR : R ≤ 16) (hz : a / 2 ≠ s) : ri_ff (fun i => ri_fy R rs rl se (ri_M R rs rl se a i) s R) 20 = ri_ff (fun i => ri_fnd (ri_M R rs rl se a (i + 1)) s) 16 := by
  have f0 : ri_fnd (ri_M R rs rl se a 0) s = false := by
    simp only [ri_fnd, ri_M, Bool.or_eq_false_iff, decide_eq_false_iff_not]; omega
  by_cases hx : ∃ i, i < 16 ∧ ri_fnd (ri_M R rs rl se a (i + 1)) s = true
  · obtain ⟨m, ⟨hm, h1⟩, h2⟩ := pk_least (fun i => i < 16 ∧ ri_fnd (ri_M R rs rl se a (i + 1)) s = true) hx
    have h3 : ∀ j, j < m → ri_fnd (ri_M R rs rl se a (j + 1)) s = false := by
      intro j hj
      have := h2 j hj
      cases e : ri_fnd (ri_M R rs rl se a (j + 1)) s with
      | false => rfl
      | true => exact absurd ⟨by omega, e⟩ this
    rw [ri_ff_s (m := m) h1 h3 16 hm]
    refine ri_ff_s (m := m) ?_ ?_ 20 (by omega)
    · rcases ri_fy2 h1 with y | y
      · cases m with
        | zero => rw [f0] at y; exact absurd y (by decide)
        | succ m => rw [h3 m (by omega)] at y; exact absurd y (by decide)
      · exact y
    · intro j hj
      cases e : ri_fy R rs rl se (ri_M R rs rl se a j) s R with
      | false => rfl
      | true => have := ri_fy1 e
                rw [show ri_stp R rs rl se (ri_M R rs rl se a j) = ri_M R rs rl se a (j + 1) from rfl, h3 j hj] at this
                exact absurd this (by decide)
  · have h3 : ∀ j, j < 16 → ri_fnd (ri_M R rs rl se a (j + 1)) s = false := by
      intro j hj
      cases e : ri_fnd (ri_M R rs rl se a (j + 1)) s with
      | false => rfl
      | true => exact absurd ⟨j, hj, e⟩ hx
    rw [ri_ff_0 h3]
    refine ri_ff_0 (fun j hj => ?_)
    cases e : ri_fy R rs rl se (ri_M R rs rl se a j) s R with
    | false => rfl
    | true =>
      have w := ri_fy1 e
      rw [show ri_stp R rs rl se (ri_M R rs rl se a j) = ri_M R rs rl se a (j + 1) from rfl] at w
      by_cases z : j < 16
      · rw [h3 j z] at w; exact absurd w (by decide)
      · have q := ri_stab2 (R := R) (rs := rs) (rl := rl) (se := se) (a := a) hR (j + 1 - 16)
        rw [show 16 + (j + 1 - 16) = j + 1 by omega] at q
        rw [q] at w
        rw [h3 15 (by omega)] at w
        exact absurd w (by decide)
/-! Y -/
def ri_mix (f : Nat → Bool) (o : Nat → Int32) (n : Nat) : Nat → Int32 := fun e => if e < n then ri_B (f e) else o e
theorem ri_mix_in {f : Nat → Bool} {o : Nat → Int32} {n e : Nat} (h : e < n) : ri_mix f o n e = ri_B (f e) := if_pos h
theorem ri_mix_0 {f : Nat → Bool} {o : Nat → Int32} : ri_mix f o 0 = o := by
  funext e; exact if_neg (by omega)
theorem ri_mix_s {f : Nat → Bool} {o : Nat → Int32} {n : Nat} : upd (ri_mix f o n) n (ri_B (f n)) = ri_mix f o (n + 1) := by
  funext e
  simp only [upd, ri_mix]
  by_cases h : e = n
  · subst h; rw [if_pos rfl, if_pos (by omega)]
  · rw [if_neg h]
    by_cases h2 : e < n
    · rw [if_pos h2, if_pos (by omega)]
    · rw [if_neg h2, if_neg (by omega)]
theorem ri_mix_u {f : Nat → Bool} {o : Nat → Int32} {n x : Nat} (hx : x < n) : upd (ri_mix f o n) x (ri_B true) = ri_mix (fun e => f e || decide (x = e)) o n := by
  funext e
  simp only [upd, ri_mix]
  by_cases h : e = x
  · subst h; rw [if_pos rfl, if_pos hx]; simp
  · rw [if_neg h]
    simp [Ne.symm h]
theorem ri_mix_m {f g : Nat → Bool} {o : Nat → Int32} {n : Nat} : ri_mix f (ri_mix g o n) n = ri_mix f o n := by
  funext e
  simp only [ri_mix]
  split <;> rfl
theorem ry_widen {post : Int32 → SY → Prop} {m : Nat → Bool} {s : Nat} (hs : s < 10) (hR : R ≤ 16) (RS : ∀ r, rs r < 20) (RL : ∀ r, rl r ≤ 5) (R1 : ∀ r, r < R → 1 ≤ rl r) (SE : ∀ i, se i < 20) (h : post (ri_B (ri_fy R rs rl se m s R)) (sY J R fo ft sg ps rs rl sj se st wt hd lk hg un dn rv (ri_mix m mt 20) (ri_mix (ri_stp R rs rl se m) nx 20))) : wpY_widen post (sY J R fo ft sg ps rs rl sj se st wt hd lk hg un dn rv (ri_mix m mt 20) (ri_mix m nx 20)) (nI s) := by
  have W := ri_fo (fun n r => wY_widen_4 post (nI s) (nI J) (nI R) n (ri_B (ri_fy R rs rl se m s r)) (nI r) (ri_n fo) (ri_n ft) (ri_b sg) (ri_n ps) (ri_n rs) (ri_n rl) (ri_n sj) (ri_n se) (ri_b st) (ri_n wt) (ri_b hd) (ri_x lk) (ri_y hg) (ri_y un) (ri_n dn) rv (ri_mix m mt 20) (ri_mix (fun e => m e || ri_ends R rs rl se m r e) nx 20)) R ?_ ?_
  · rw [show (fun e => m e || ri_ends R rs rl se m 0 e) = m from by funext e; simp [ri_ends, ri_ba]] at W
    exact W
  · intro n
    simp only [wY_widen_4]
    simp (disch := omega) only [nI_leI]
    exact br_t (Nat.le_refl _) ⟨ri_narr _, h⟩
  · intro n r hr p
    have h1 := RS r
    have h2 := RL r
    have h3 := R1 r hr
    have h4 := SE (5 * r + rl r - 1)
    have h5 := ri_op_lt h4
    simp only [wY_widen_4, wY_widen_55]
    simp (disch := omega) only [nI_leI, nI_clamp, ri_n_ap, ri_in, nI_1, ri_mul5', nI_add, ri_sub1, ri_mix_in, ri_B0, ri_two, not_false_eq_true, true_and]
    refine br_f (by omega) ⟨by omega, by omega, br_c (fun z => ?_) (fun z => ⟨by omega, by omega, nm_e ?_⟩)⟩
    · simp only [ri_fy, ri_ends, ri_ba, z, Bool.false_and, Bool.or_false] at p
      exact nm_e p
    · rw [Bool.not_eq_false] at z
      simp (disch := omega) only [ri_op_x, ri_div2, nI_eq, nI_clamp, ri_in, ri_nar1, ri_mix_u]
      have e1 : (fun e => m e || ri_ends R rs rl se m (r + 1) e) = (fun e => (m e || ri_ends R rs rl se m r e) || decide (ri_op (se (5 * r + rl r - 1)) = e)) := by
        funext e; simp only [ri_ends, ri_ba, z, Bool.true_and, Bool.or_assoc]; rfl
      rw [e1] at p
      refine br_c (fun y => ⟨by omega, nm_e (nm_e ?_)⟩) (fun y => ⟨by omega, nm_e (nm_e ?_)⟩)
      · rw [show ri_fy R rs rl se m s (r + 1) = true from by
          simp only [ri_fy, ri_ba, z, Bool.true_and]; rw [show decide (ri_las rl se r / 2 = s) = true from decide_eq_true y, Bool.or_true]] at p
        exact p
      · rw [show ri_fy R rs rl se m s (r + 1) = ri_fy R rs rl se m s r from by
          simp only [ri_fy, ri_ba, z, Bool.true_and]; rw [show decide (ri_las rl se r / 2 = s) = false from decide_eq_false y, Bool.or_false]] at p
        exact p
theorem ry_hops {post : Int32 → SY → Prop} {a s : Nat} (ha : a < 20) (hs : s < 10) (hR : R ≤ 16) (RS : ∀ r, rs r < 20) (RL : ∀ r, rl r ≤ 5) (R1 : ∀ r, r < R → 1 ≤ rl r) (SE : ∀ i, se i < 20) (h0 : a / 2 = s → post 0 (sY J R fo ft sg ps rs rl sj se st wt hd lk hg un dn rv mt nx)) (h : a / 2 ≠ s → ∀ mt' nx', post (ri_ans (ri_ff (fun i => ri_fy R rs rl se (ri_M R rs rl se a i) s R) 20)) (sY J R fo ft sg ps rs rl sj se st wt hd lk hg un dn rv mt' nx')) : wpY_hops post (sY J R fo ft sg ps rs rl sj se st wt hd lk hg un dn rv mt nx) (nI a) (nI s) := by
  simp only [wpY_hops]
  refine ry_inN1 19 (by omega) ha (br_f (by decide) (ry_inN1 9 (by omega) hs (br_f (by decide) ⟨by decide, ?_⟩)))
  simp (disch := omega) only [ri_div2, nI_eq]
  refine br_c h0 (fun z => ?_)
  have hp := h z
  have W := ri_fo (fun n e => wY_hops_35 post (nI a) (nI s) (nI J) (nI R) n (nI e) (ri_n fo) (ri_n ft) (ri_b sg) (ri_n ps) (ri_n rs) (ri_n rl) (ri_n sj) (ri_n se) (ri_b st) (ri_n wt) (ri_b hd) (ri_x lk) (ri_y hg) (ri_y un) (ri_n dn) rv (ri_mix (ri_M R rs rl se a 0) mt e) (ri_mix (ri_M R rs rl se a 0) nx e)) 20 ?_ ?_
  · rw [ri_mix_0, ri_mix_0] at W; exact W
  · intro n
    simp only [wY_hops_35]
    refine br_t (nI_le (a := 20) (b := 20) (by omega) (by omega)) ?_
    refine ri_sf (fun n i => wY_hops_81 post (nI s) n (nI (i + 1)) (nI J) (nI R) (ri_n fo) (ri_n ft) (ri_b sg) (ri_n ps) (ri_n rs) (ri_n rl) (ri_n sj) (ri_n se) (ri_b st) (ri_n wt) (ri_b hd) (ri_x lk) (ri_y hg) (ri_y un) (ri_n dn) rv (ri_mix (ri_M R rs rl se a i) mt 20) (ri_mix (ri_M R rs rl se a i) nx 20)) (fun v => ∀ mt' nx', post (ri_ans v) (sY J R fo ft sg ps rs rl sj se st wt hd lk hg un dn rv mt' nx')) (fun i => ri_fy R rs rl se (ri_M R rs rl se a i) s R) 20 hp ?_ ?_ ?_
    · intro n p
      exact br_t (nI_lt (a := 20) (b := 21) (by omega) (by omega)) (p _ _)
    · intro n i hi hf p
      simp only [wY_hops_81]
      refine br_f (nI_nlt (b := i + 1) (a := 20) (by omega) (by omega)) (ry_widen hs hR RS RL R1 SE ?_)
      rw [hf]
      exact br_f (by decide) (p _ _)
    · intro n i hi hf p
      simp only [wY_hops_81]
      refine br_f (nI_nlt (b := i + 1) (a := 20) (by omega) (by omega)) (ry_widen hs hR RS RL R1 SE ?_)
      rw [hf]
      refine br_t (by decide) ?_
      have V := ri_fo (fun k e => wY_hops_100 post (wY_hops_81 post (nI s) n) (nI s) (nI (i + 1)) (nI J) (nI R) k (nI e) (ri_n fo) (ri_n ft) (ri_b sg) (ri_n ps) (ri_n rs) (ri_n rl) (ri_n sj) (ri_n se) (ri_b st) (ri_n wt) (ri_b hd) (ri_x lk) (ri_y hg) (ri_y un) (ri_n dn) rv (ri_mix (ri_M R rs rl se a (i + 1)) (ri_mix (ri_M R rs rl se a i) mt 20) e) (ri_mix (ri_M R rs rl se a (i + 1)) nx 20)) 20 ?_ ?_
      · rw [ri_mix_0] at V; exact V
      · intro k
        simp only [wY_hops_100]
        refine br_t (nI_le (a := 20) (b := 20) (by omega) (by omega)) (nm_r (nI_1 _) ?_)
        rw [ri_mix_m]
        exact p
      · intro k e he q
        simp only [wY_hops_100]
        simp (disch := omega) only [nI_clamp, ri_in, ri_mix_in, ri_nar, ri_mix_s, ri_le20, nI_1]
        exact br_f (by omega) ⟨by omega, by omega, nm_e (nm_e q)⟩
  · intro n e he p
    simp only [wY_hops_35, wY_hops_56]
    simp (disch := omega) only [nI_clamp, ri_in, ri_le20, nI_1, nI_eq, ri_nar1, ri_nar0]
    refine br_f (by omega) (br_c (fun y => ⟨by omega, nm_e (br_t y ⟨by omega, nm_e (nm_e ?_)⟩)⟩) (fun y => ⟨by omega, nm_e (br_f y ⟨by omega, nm_e (nm_e ?_)⟩)⟩))
    · rw [← ri_mix_s, ← ri_mix_s, show ri_M R rs rl se a 0 e = true from decide_eq_true y] at p
      exact p
    · rw [← ri_mix_s, ← ri_mix_s, show ri_M R rs rl se a 0 e = false from decide_eq_false y] at p
      exact p
end
