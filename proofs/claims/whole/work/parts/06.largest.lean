section
variable {J R : Nat} {fo ft ct ej ps : Nat → Nat} {sg : Nat → Bool} {rs rl sj se : Nat → Nat} {cb : Nat → Int32} {st : Nat → Bool} {wt : Nat → Nat} {hd : Nat → Bool} {lk hg un dn : Nat → Nat} {rv mt nx : Nat → Int32}
theorem ri_tb {A m : Nat} : (A / 2 ^ m % 2 = 0) ↔ A.testBit m = false := by
  rw [Nat.testBit_eq_decide_div_mod_eq, decide_eq_false_iff_not]; omega
theorem ri_tb1 {A m : Nat} : (A / 2 ^ m % 2 = 1) ↔ A.testBit m = true := by
  rw [Nat.testBit_eq_decide_div_mod_eq, decide_eq_true_eq]
theorem ri_and0 {x y : Nat} : (x &&& y = 0) ↔ ∀ q, (x.testBit q && y.testBit q) = false := by
  constructor
  · intro h q; rw [← Nat.testBit_and, h, Nat.zero_testBit]
  · intro h; apply Nat.eq_of_testBit_eq; intro q; rw [Nat.testBit_and, h q, Nat.zero_testBit]
theorem ri_hi {A n q : Nat} : (A / 2 ^ n * 2 ^ n).testBit q = (decide (n ≤ q) && A.testBit q) := by
  rw [← Nat.shiftRight_eq_div_pow, ← Nat.shiftLeft_eq, Nat.testBit_shiftLeft, Nat.testBit_shiftRight]
  by_cases h : n ≤ q
  · rw [show n + (q - n) = q by omega]
  · simp [h]
/-! the greatest number of a set that is so -/
def ri_mx (P : Nat → Bool) (sz : Nat → Nat) : Nat → Nat
  | 0 => 0
  | n + 1 => if P n = true ∧ ¬ sz n ≤ ri_mx P sz n then sz n else ri_mx P sz n
theorem ri_mx_skip {P : Nat → Bool} {sz : Nat → Nat} {x : Nat} : ∀ y, x ≤ y → (∀ b, x ≤ b → b < y → P b = false) → ri_mx P sz y = ri_mx P sz x := by
  intro y
  induction y with
  | zero => intro h _; rw [show x = 0 by omega]
  | succ y ih =>
    intro h hb
    by_cases e : x = y + 1
    · rw [e]
    · simp only [ri_mx]
      rw [hb y (by omega) (by omega), if_neg (fun z => absurd z.1 (by decide))]
      exact ih (by omega) (fun b h1 h2 => hb b h1 (by omega))
theorem ri_mx_c {P Q : Nat → Bool} {sz : Nat → Nat} (h : ∀ b, P b = Q b) : ∀ n, ri_mx P sz n = ri_mx Q sz n := by
  intro n
  induction n with
  | zero => rfl
  | succ n ih => simp only [ri_mx, ih, h]
theorem ri_mx_le {P : Nat → Bool} {sz : Nat → Nat} {B : Nat} (h : ∀ b, sz b ≤ B) : ∀ n, ri_mx P sz n ≤ B := by
  intro n
  induction n with
  | zero => exact Nat.zero_le _
  | succ n ih => simp only [ri_mx]; split
                 · exact h _
                 · exact ih
def ri_sz (R : Nat) (A : Nat) : Nat := ri_cn (fun q => A.testBit q) R
def ri_cl (F : Nat → Nat → Bool) (R A r : Nat) : Bool := A.testBit r && ri_ba (fun q => decide (r < q) && (A.testBit q && F r q)) R
def ri_pX (F : Nat → Nat → Bool) (R A : Nat) : Bool := !ri_ba (ri_cl F R A) R
def ri_bad (F : Nat → Nat → Bool) (R A r : Nat) : Bool := A.testBit r && ri_ba (fun q => decide (q ≠ r) && (A.testBit q && F r q)) R
theorem ri_pXY {F : Nat → Nat → Bool} (S : ∀ r q, r < R → q < R → F r q = F q r) (A : Nat) : ri_ba (ri_cl F R A) R = ri_ba (ri_bad F R A) R := by
  apply ri_beq
  rw [ri_ba_t, ri_ba_t]
  constructor
  · rintro ⟨r, hr, h⟩
    simp only [ri_cl, Bool.and_eq_true] at h
    obtain ⟨q, hq, h2⟩ := ri_ba_t.mp h.2
    simp only [Bool.and_eq_true, decide_eq_true_eq] at h2
    refine ⟨r, hr, ?_⟩
    simp only [ri_bad, Bool.and_eq_true]
    exact ⟨h.1, ri_ba_t.mpr ⟨q, hq, by simp only [Bool.and_eq_true, decide_eq_true_eq]; exact ⟨by omega, h2.2⟩⟩⟩
  · rintro ⟨r, hr, h⟩
    simp only [ri_bad, Bool.and_eq_true] at h
    obtain ⟨q, hq, h2⟩ := ri_ba_t.mp h.2
    simp only [Bool.and_eq_true, decide_eq_true_eq] at h2
    rcases Nat.lt_or_gt_of_ne h2.1 with z | z
    · refine ⟨q, hq, ?_⟩
      simp only [ri_cl, Bool.and_eq_true]
      exact ⟨h2.2.1, ri_ba_t.mpr ⟨r, hr, by simp only [Bool.and_eq_true, decide_eq_true_eq]; exact ⟨z, h.1, by rw [S q r hq hr]; exact h2.2.2⟩⟩⟩
    · refine ⟨r, hr, ?_⟩
      simp only [ri_cl, Bool.and_eq_true]
      exact ⟨h.1, ri_ba_t.mpr ⟨q, hq, by simp only [Bool.and_eq_true, decide_eq_true_eq]; exact ⟨z, h2.2⟩⟩⟩
theorem ri_clc {F : Nat → Nat → Bool} {A m : Nat} (hm : m < R) : (ri_bm (F m) R &&& (A / 2 ^ (m + 1) * 2 ^ (m + 1)) = 0) ↔ ri_ba (fun q => decide (m < q) && (A.testBit q && F m q)) R = false := by
  rw [ri_and0, ri_ba_f]
  constructor
  · intro h q hq
    have := h q
    rw [ri_bm_b, ri_hi, decide_eq_true hq, Bool.true_and] at this
    rw [show decide (m < q) = decide (m + 1 ≤ q) from rfl]
    revert this
    cases F m q <;> cases A.testBit q <;> cases decide (m + 1 ≤ q) <;> simp
  · intro h q
    rw [ri_bm_b, ri_hi]
    by_cases hq : q < R
    · have := h q hq
      rw [show decide (m < q) = decide (m + 1 ≤ q) from rfl] at this
      rw [decide_eq_true hq, Bool.true_and]
      revert this
      cases F m q <;> cases A.testBit q <;> cases decide (m + 1 ≤ q) <;> simp
    · simp [hq]
theorem rx_clash {post : Int32 → Prop} {F : Nat → Nat → Bool} {A : Nat} (hA : A < 2 ^ 16) (hR : R ≤ 16) (CB : ∀ r, r < R → cb r = nI (ri_bm (F r) R)) (h0 : (∀ r, r < R → ri_cl F R A r = false) → post (-2)) (h1 : ∀ r, r < R → ri_cl F R A r = true → post (nI r)) : wpX_clashingRouteIn post (sX J R fo ft ct ej ps sg rs rl sj se cb st wt hd lk hg un dn) (nI A) := by
  have key : ∀ i, i ≤ R → (∀ r, i ≤ r → r < R → ri_cl F R A r = false) → wX_clashingRouteIn_7 post (nI A) (nI J) (nI R) (ri_n fo) (ri_n ft) (ri_n ct) (ri_n ej) (ri_n ps) (ri_b sg) (ri_n rs) (ri_n rl) (ri_n sj) (ri_n se) cb (ri_b st) (ri_n wt) (ri_b hd) (ri_x lk) (ri_x hg) (ri_x un) (ri_n dn) (i + 1) (nI i + (-1)) := by
    intro i
    induction i with
    | zero =>
      intro _ hi
      exact br_t (by decide) (h0 (fun r hr => hi r (by omega) hr))
    | succ m ih =>
      intro hm hi
      rw [pk_m1]
      have hAm : A / 2 ^ (m + 1) * 2 ^ (m + 1) < 2 ^ 32 := by
        have := Nat.div_mul_le_self A (2 ^ (m + 1)); omega
      have hAm2 : A / 2 ^ m < 2 ^ 31 := by
        have := Nat.div_le_self A (2 ^ m); omega
      have hAm3 : A / 2 ^ (m + 1) < 2 ^ 31 := by
        have := Nat.div_le_self A (2 ^ (m + 1)); omega
      have hb : ri_bm (F m) R &&& (A / 2 ^ (m + 1) * 2 ^ (m + 1)) < 2 ^ 31 := by
        have := Nat.and_le_left (n := ri_bm (F m) R) (m := A / 2 ^ (m + 1) * 2 ^ (m + 1))
        have := ri_bm_lt (F m) R
        have := ri_p31 (n := R) (by omega)
        omega
      simp only [wX_clashingRouteIn_7]
      simp (disch := omega) only [nI_clamp, nI_1, ri_shr, ri_shl, CB, ri_and, ri_a1, ri_in, ri_gt0, ri_eq0, ri_tb, ri_clc]
      have nx : ri_cl F R A m = false → wX_clashingRouteIn_7 post (nI A) (nI J) (nI R) (ri_n fo) (ri_n ft) (ri_n ct) (ri_n ej) (ri_n ps) (ri_b sg) (ri_n rs) (ri_n rl) (ri_n sj) (ri_n se) cb (ri_b st) (ri_n wt) (ri_b hd) (ri_x lk) (ri_x hg) (ri_x un) (ri_n dn) (m + 1) (nI m + (-1)) := by
        intro e
        refine ih (by omega) (fun r h2 h3 => ?_)
        by_cases z : r = m
        · rw [z]; exact e
        · exact hi r (by omega) h3
      refine br_f (by omega) (nm_e ?_)
      simp (disch := omega) only [CB, ri_and, ri_eq0, ri_clc]
      refine br_c (fun z => nm_e (nx ?_)) (fun z => ⟨by omega, br_c (fun w => nm_e (nx ?_)) (fun w => h1 m (by omega) ?_)⟩)
      · simp only [ri_cl, z, Bool.false_and]
      · simp only [ri_cl, w, Bool.and_false]
      · rw [Bool.not_eq_false] at z w
        simp only [ri_cl, z, w, Bool.and_true]
  rw [wpX_clashingRouteIn]
  refine nm_r (e' := nI R + (-1)) (by grind) ⟨_, key R (Nat.le_refl _) (fun r h2 h3 => by omega)⟩
theorem rx_size {post : Int32 → Prop} {A : Nat} (hA : A < 2 ^ 16) (hR : R ≤ 16) (h : post (nI (ri_sz R A))) : wpX_countRoutesIn post (sX J R fo ft ct ej ps sg rs rl sj se cb st wt hd lk hg un dn) (nI A) := by
  refine ri_fo (fun n q => wX_countRoutesIn_4 post (nI A) (nI J) (nI R) (ri_n fo) (ri_n ft) (ri_n ct) (ri_n ej) (ri_n ps) (ri_b sg) (ri_n rs) (ri_n rl) (ri_n sj) (ri_n se) cb (ri_b st) (ri_n wt) (ri_b hd) (ri_x lk) (ri_x hg) (ri_x un) (ri_n dn) n (nI (ri_cn (fun q => A.testBit q) q)) (nI q)) R ?_ ?_
  · intro n
    simp only [wX_countRoutesIn_4]
    simp (disch := omega) only [nI_clamp, ri_n_ap, ri_b_ap, ri_x_ap, ri_y_ap, ri_in, ri_B0, ri_B1, ri_nm2, ri_nm1, ri_cx_z, ri_cx_n, ri_cy_n, ri_cy_g, ri_cx_e, ri_cy_e, nI_1, nI_add, ri_mul5, ri_mul5', ri_mul2, ri_mul2', ri_add5, ri_div2, ri_two, ri_01, ri_10, nI_eq, nI_leI, nI_ltI, forall_eq, not_false_eq_true, true_and, and_true, not_true_eq_false, false_implies, implies_true, true_implies, ri_le0, ri_ge0, ri_lt0, ri_gt0, ri_eq0, ri_le1, ri_ge1, ri_lt1, ri_gt1, ri_eq1, ri_le2, ri_ge2, ri_lt2, ri_gt2, ri_eq2, ri_le3, ri_ge3, ri_lt3, ri_gt3, ri_eq3, ri_le4, ri_ge4, ri_lt4, ri_gt4, ri_eq4, ri_le5, ri_ge5, ri_lt5, ri_gt5, ri_eq5, ri_le10, ri_ge10, ri_lt10, ri_gt10, ri_eq10, ri_le12, ri_ge12, ri_lt12, ri_gt12, ri_eq12, ri_le16, ri_ge16, ri_lt16, ri_gt16, ri_eq16, ri_le20, ri_ge20, ri_lt20, ri_gt20, ri_eq20, ri_le32, ri_ge32, ri_lt32, ri_gt32, ri_eq32, ri_le80, ri_ge80, ri_lt80, ri_gt80, ri_eq80]
    exact br_t (Nat.le_refl _) h
  · intro n q hq p
    have hAm2 : A / 2 ^ q < 2 ^ 31 := by
      have := Nat.div_le_self A (2 ^ q); omega
    simp only [wX_countRoutesIn_4]
    simp (disch := omega) only [nI_leI, ri_shr, ri_a1, nI_add, nI_1]
    refine br_f (by omega) (nm_r (congrArg nI ?_) (nm_e p))
    simp only [ri_cn]
    by_cases e : A.testBit q = true
    · rw [if_pos e, ri_tb1.mpr e]
    · rw [if_neg e, ri_tb.mpr (Bool.eq_false_iff.mpr e)]
theorem ri_pX_f {F : Nat → Nat → Bool} {A B r : Nat} (hr : r < R) (h : ri_cl F R A r = true) (e : B / 2 ^ r = A / 2 ^ r) : ri_pX F R B = false := by
  have t : ∀ q, r ≤ q → B.testBit q = A.testBit q := by
    intro q hq
    have w : ∀ C : Nat, C.testBit q = (C / 2 ^ r).testBit (q - r) := by
      intro C
      rw [← Nat.shiftRight_eq_div_pow, Nat.testBit_shiftRight, show r + (q - r) = q by omega]
    rw [w B, w A, e]
  simp only [ri_cl, Bool.and_eq_true] at h
  obtain ⟨q, hq, h2⟩ := ri_ba_t.mp h.2
  simp only [Bool.and_eq_true, decide_eq_true_eq] at h2
  have : ri_ba (ri_cl F R B) R = true := by
    refine ri_ba_t.mpr ⟨r, hr, ?_⟩
    simp only [ri_cl, Bool.and_eq_true]
    refine ⟨by rw [t r (Nat.le_refl _)]; exact h.1, ri_ba_t.mpr ⟨q, hq, ?_⟩⟩
    simp only [Bool.and_eq_true, decide_eq_true_eq]
    exact ⟨h2.1, by rw [t q (by omega)]; exact h2.2.1, h2.2.2⟩
  rw [ri_pX, this]; rfl
theorem ri_orr {A r : Nat} : (A ||| (2 ^ r - 1)) / 2 ^ r = A / 2 ^ r := by
  rw [← Nat.shiftRight_eq_div_pow, ← Nat.shiftRight_eq_div_pow, Nat.shiftRight_or_distrib]
  have : (2 ^ r - 1) >>> r = 0 := by
    rw [Nat.shiftRight_eq_div_pow]
    exact Nat.div_eq_of_lt (by have := Nat.two_pow_pos r; omega)
  rw [this, Nat.or_zero]
theorem rx_largest {post : Int32 → Prop} {F : Nat → Nat → Bool} (hR : R ≤ 16) (CB : ∀ r, r < R → cb r = nI (ri_bm (F r) R)) (h : post (nI (ri_mx (ri_pX F R) (ri_sz R) (2 ^ R)))) : wpX_largest post (sX J R fo ft ct ej ps sg rs rl sj se cb st wt hd lk hg un dn) := by
  have hP : 2 ^ R ≤ 2 ^ 16 := Nat.pow_le_pow_right (by decide) hR
  have hmx : ∀ n, ri_mx (ri_pX F R) (ri_sz R) n ≤ 16 := ri_mx_le (fun b => by have := ri_cn_n (fun q => b.testBit q) R; unfold ri_sz; omega)
  have key : ∀ d x, 2 ^ R - x ≤ d → x ≤ 2 ^ R → wX_largest_4 post (nI J) (nI R) (ri_n fo) (ri_n ft) (ri_n ct) (ri_n ej) (ri_n ps) (ri_b sg) (ri_n rs) (ri_n rl) (ri_n sj) (ri_n se) cb (ri_b st) (ri_n wt) (ri_b hd) (ri_x lk) (ri_x hg) (ri_x un) (ri_n dn) (d + 1) (nI (ri_mx (ri_pX F R) (ri_sz R) x)) (nI x) := by
    intro d
    induction d with
    | zero =>
      intro x h1 h2
      have e : x = 2 ^ R := by omega
      subst e
      simp only [wX_largest_4]
      simp (disch := omega) only [ri_sh1, nI_leI]
      exact br_t (Nat.le_refl _) h
    | succ d ih =>
      intro x h1 h2
      generalize hn : d + 1 = n at ih ⊢
      simp only [wX_largest_4]
      simp (disch := omega) only [ri_sh1, nI_leI]
      refine br_c (fun z => ?_) (fun z => ?_)
      · have e : x = 2 ^ R := by omega
        subst e
        exact h
      · have hx : x < 2 ^ 16 := by omega
        have hm := hmx x
        have hs : ri_sz R x ≤ 16 := by have := ri_cn_n (fun q => x.testBit q) R; unfold ri_sz; omega
        refine rx_clash hx hR CB (fun c => ?_) (fun r hr c => ?_)
        · refine br_t rfl (rx_size hx hR ?_)
          have pt : ri_pX F R x = true := by rw [ri_pX, ri_ba_f.mpr c]; rfl
          have p := ih (x + 1) (by omega) (by omega)
          simp only [ri_mx, pt, true_and] at p
          simp (disch := omega) only [nI_leI, nI_1]
          refine br_c (fun y => ?_) (fun y => ?_)
          · rw [if_neg (fun w => w y)] at p; exact nm_e p
          · rw [if_pos y] at p; exact nm_e p
        · have hr1 := ri_p31 (n := r) (by omega)
          have hr2 := Nat.two_pow_pos r
          have hr3 : 2 ^ r ≤ 2 ^ R := Nat.pow_le_pow_right (by decide) (by omega)
          have hlt : x ||| (2 ^ r - 1) < 2 ^ R := Nat.or_lt_two_pow (by omega) (by omega)
          have hge : x ≤ x ||| (2 ^ r - 1) := Nat.left_le_or
          have p := ih ((x ||| (2 ^ r - 1)) + 1) (by omega) (by omega)
          rw [ri_mx_skip (x := x) _ (by omega) (fun b h3 h4 => ri_pX_f hr c (Nat.le_antisymm (Nat.le_trans (Nat.div_le_div_right (by omega)) (Nat.le_of_eq ri_orr)) (Nat.div_le_div_right h3)))] at p
          refine br_f (ri_m2 (by omega)) ?_
          simp (disch := omega) only [ri_sh1, ri_sub1, ri_or, nI_1]
          exact nm_e (nm_r (nI_1 _) p)
  exact ⟨_, key (2 ^ R) 0 (Nat.sub_le _ _) (Nat.zero_le _)⟩
/-! Y -/
def ri_riv (F : Nat → Nat → Bool) (r q : Nat) : Bool := decide (q ≠ r) && F r q
theorem ry_against {post : Int32 → Prop} {r : Nat} (hr : r < R) (hR : R ≤ 16) (HJ : ri_J J fo ft ct ej) (RL : ∀ r, rl r ≤ 5) (SJ : ∀ i, sj i < 12) (SE : ∀ i, se i < 20) (SJr : ∀ r, r < R → ∀ k, k < rl r → sj (5 * r + k) < J) (h : post (nI (ri_bm (ri_riv (ri_row fo ft rl sj se) r) R))) : wpY_against post (sY J R fo ft sg ps rs rl sj se st wt hd lk hg un dn rv mt nx) (nI r) := by
  refine ri_fo (fun n q => wY_against_4 post (nI r) (nI J) (nI R) (ri_n fo) (ri_n ft) (ri_b sg) (ri_n ps) (ri_n rs) (ri_n rl) (ri_n sj) (ri_n se) (ri_b st) (ri_n wt) (ri_b hd) (ri_x lk) (ri_y hg) (ri_y un) (ri_n dn) rv mt nx n (nI (ri_bm (ri_riv (ri_row fo ft rl sj se) r) q)) (nI q)) R ?_ ?_
  · intro n
    simp only [wY_against_4]
    simp (disch := omega) only [nI_clamp, ri_n_ap, ri_b_ap, ri_x_ap, ri_y_ap, ri_in, ri_B0, ri_B1, ri_nm2, ri_nm1, ri_cx_z, ri_cx_n, ri_cy_n, ri_cy_g, ri_cx_e, ri_cy_e, nI_1, nI_add, ri_mul5, ri_mul5', ri_mul2, ri_mul2', ri_add5, ri_div2, ri_two, ri_01, ri_10, nI_eq, nI_leI, nI_ltI, forall_eq, not_false_eq_true, true_and, and_true, not_true_eq_false, false_implies, implies_true, true_implies, ri_le0, ri_ge0, ri_lt0, ri_gt0, ri_eq0, ri_le1, ri_ge1, ri_lt1, ri_gt1, ri_eq1, ri_le2, ri_ge2, ri_lt2, ri_gt2, ri_eq2, ri_le3, ri_ge3, ri_lt3, ri_gt3, ri_eq3, ri_le4, ri_ge4, ri_lt4, ri_gt4, ri_eq4, ri_le5, ri_ge5, ri_lt5, ri_gt5, ri_eq5, ri_le10, ri_ge10, ri_lt10, ri_gt10, ri_eq10, ri_le12, ri_ge12, ri_lt12, ri_gt12, ri_eq12, ri_le16, ri_ge16, ri_lt16, ri_gt16, ri_eq16, ri_le20, ri_ge20, ri_lt20, ri_gt20, ri_eq20, ri_le32, ri_ge32, ri_lt32, ri_gt32, ri_eq32, ri_le80, ri_ge80, ri_lt80, ri_gt80, ri_eq80]
    exact br_t (Nat.le_refl _) h
  · intro n q hq p
    have hb := ri_bm_lt (ri_riv (ri_row fo ft rl sj se) r) q
    have hp := ri_p31 (n := q) (by omega)
    simp only [wY_against_4]
    simp (disch := omega) only [nI_leI, nI_eq, nI_1, ri_sh1, ri_or]
    refine br_f (by omega) (br_c (fun z => ?_) (fun z => ry_cf hr hq hR HJ RL SJ SE SJr ?_))
    · rw [← ri_bm_no (show ri_riv (ri_row fo ft rl sj se) r q = false by simp [ri_riv, z])] at p
      exact nm_e p
    · simp only [ri_B0]
      refine br_c (fun y => ?_) (fun y => ?_)
      · rw [← ri_bm_no (show ri_riv (ri_row fo ft rl sj se) r q = false by simp [ri_riv, y])] at p
        exact nm_e p
      · rw [Bool.not_eq_false] at y
        rw [ri_bm_or (show ri_riv (ri_row fo ft rl sj se) r q = true by simp [ri_riv, y, z])]
        exact nm_e (nm_e p)
def ri_rvs (F : Nat → Nat → Bool) (R : Nat) (rv : Nat → Int32) : Nat → Nat → Int32
  | 0 => rv
  | r + 1 => upd (ri_rvs F R rv r) r (nI (ri_bm (ri_riv F r) R))
theorem ri_rvs_r {F : Nat → Nat → Bool} : ∀ n r, r < n → ri_rvs F R rv n r = nI (ri_bm (ri_riv F r) R) := by
  intro n
  induction n with
  | zero => intro r h; omega
  | succ n ih =>
    intro r h
    by_cases e : r = n
    · subst e; exact pk_us
    · exact (pk_un e).trans (ih r (by omega))
def ri_cv (F : Nat → Nat → Bool) (R A : Nat) : Nat → Int32
  | 0 => 0
  | i + 1 => if A.testBit i = true then (if ri_bad F R A i = true then -100 else ri_cv F R A i + 1) else ri_cv F R A i
theorem ri_cv_ok {F : Nat → Nat → Bool} {A : Nat} : ∀ i, (∀ r, r < i → ri_bad F R A r = false) → ri_cv F R A i = nI (ri_cn (fun q => A.testBit q) i) := by
  intro i
  induction i with
  | zero => intro _; rfl
  | succ i ih =>
    intro h
    simp only [ri_cv, ri_cn]
    rw [h i (by omega), ih (fun r hr => h r (by omega))]
    split
    · rw [if_neg (by decide), nI_1]
    · rfl
theorem ri_cv_bad {F : Nat → Nat → Bool} {A : Nat} : ∀ i, (∃ r, r < i ∧ ri_bad F R A r = true) → ∃ m, m ≤ i ∧ ri_cv F R A i = nI m + (-100) := by
  intro i
  induction i with
  | zero => rintro ⟨r, h, _⟩; omega
  | succ i ih =>
    rintro ⟨r, hr, hb⟩
    simp only [ri_cv]
    by_cases z : A.testBit i = true
    · rw [if_pos z]
      by_cases y : ri_bad F R A i = true
      · rw [if_pos y]; exact ⟨0, by omega, rfl⟩
      · rw [if_neg y]
        obtain ⟨m, h1, h2⟩ := ih ⟨r, by
          by_cases e : r = i
          · rw [e] at hb; exact absurd hb y
          · omega, hb⟩
        refine ⟨m + 1, by omega, ?_⟩
        rw [h2, ← nI_1]; grind
    · rw [if_neg z]
      have y : ¬ ri_bad F R A i = true := by
        intro w; simp only [ri_bad, Bool.and_eq_true] at w; exact z w.1
      obtain ⟨m, h1, h2⟩ := ih ⟨r, by
          by_cases e : r = i
          · rw [e] at hb; exact absurd hb y
          · omega, hb⟩
      exact ⟨m, by omega, h2⟩
theorem ri_neg {m k : Nat} (hm : m ≤ 16) (hk : k < 2 ^ 31) : nI m + (-100) ≤ nI k := by
  have e : nI m + (-100) = nI m - nI 100 := by
    rw [Int32.sub_eq_add_neg]; rfl
  have h1 := pk_sneg (a := m) (b := 100) (by omega) (by omega)
  rw [e]
  exact Int32.le_of_lt (Int32.lt_of_lt_of_le h1 (nI_pos' hk))
theorem ri_badc {F : Nat → Nat → Bool} {A i : Nat} (hi : i < R) (z : A.testBit i = true) : (ri_bm (ri_riv F i) R &&& A = 0) ↔ ri_bad F R A i = false := by
  rw [ri_bad, z, Bool.true_and, ri_and0, ri_ba_f]
  constructor
  · intro h q hq
    have := h q
    rw [ri_bm_b, decide_eq_true hq, Bool.true_and, ri_riv] at this
    revert this
    cases F i q <;> cases A.testBit q <;> cases decide (q ≠ i) <;> simp
  · intro h q
    rw [ri_bm_b, ri_riv]
    by_cases hq : q < R
    · have := h q hq
      rw [decide_eq_true hq, Bool.true_and]
      revert this
      cases F i q <;> cases A.testBit q <;> cases decide (q ≠ i) <;> simp
    · simp [hq]
theorem ry_lgI {post : Int32 → SY → Prop} {J31 : Int32 → Int32 → Prop} {F : Nat → Nat → Bool} {A : Nat} {x1 : Int32} (hA : A < 2 ^ 16) (hR : R ≤ 16) (RV : ∀ r, r < R → rv r = nI (ri_bm (ri_riv F r) R)) (h : (ri_cv F R A R ≤ x1 → J31 x1 (nI (A + 1))) ∧ (¬ ri_cv F R A R ≤ x1 → J31 (ri_cv F R A R) (nI (A + 1)))) : ∃ n, wY_largest_46 post J31 x1 (nI A) (nI J) (nI R) (ri_n fo) (ri_n ft) (ri_b sg) (ri_n ps) (ri_n rs) (ri_n rl) (ri_n sj) (ri_n se) (ri_b st) (ri_n wt) (ri_b hd) (ri_x lk) (ri_y hg) (ri_y un) (ri_n dn) rv mt nx n 0 0 := by
  refine ri_fo (fun n i => wY_largest_46 post J31 x1 (nI A) (nI J) (nI R) (ri_n fo) (ri_n ft) (ri_b sg) (ri_n ps) (ri_n rs) (ri_n rl) (ri_n sj) (ri_n se) (ri_b st) (ri_n wt) (ri_b hd) (ri_x lk) (ri_y hg) (ri_y un) (ri_n dn) rv mt nx n (ri_cv F R A i) (nI i)) R ?_ ?_
  · intro n
    simp only [wY_largest_46]
    simp (disch := omega) only [nI_leI, nI_1]
    exact br_t (Nat.le_refl _) ⟨fun z => nm_e (h.1 z), fun z => nm_e (h.2 z)⟩
  · intro n i hi p
    have hAm2 : A / 2 ^ i < 2 ^ 31 := by
      have := Nat.div_le_self A (2 ^ i); omega
    have hb : ri_bm (ri_riv F i) R &&& A < 2 ^ 31 := by
      have := Nat.and_le_right (n := ri_bm (ri_riv F i) R) (m := A)
      omega
    simp only [ri_cv] at p
    simp only [wY_largest_46]
    simp (disch := omega) only [nI_leI, nI_1, ri_shr, ri_a1, ri_eq1, ri_tb1, nI_clamp, RV, ri_and, ri_in, ri_eq0]
    refine br_f (by omega) (br_c (fun z => ⟨by omega, ?_⟩) (fun z => ?_))
    · rw [if_pos z] at p
      rw [ri_badc hi z]
      refine br_c (fun y => ?_) (fun y => ?_)
      · rw [if_neg (by rw [y]; decide)] at p; exact nm_e (nm_e p)
      · rw [Bool.not_eq_false] at y; rw [if_pos y] at p; exact nm_e p
    · rw [if_neg z] at p; exact nm_e p
theorem ry_lgM {post : Int32 → SY → Prop} {F : Nat → Nat → Bool} (hR : R ≤ 16) (S : ∀ r q, r < R → q < R → F r q = F q r) (RV : ∀ r, r < R → rv r = nI (ri_bm (ri_riv F r) R)) (h : post (nI (ri_mx (ri_pX F R) (ri_sz R) (2 ^ R))) (sY J R fo ft sg ps rs rl sj se st wt hd lk hg un dn rv mt nx)) : ∃ n, wY_largest_31 post (nI J) (nI R) (ri_n fo) (ri_n ft) (ri_b sg) (ri_n ps) (ri_n rs) (ri_n rl) (ri_n sj) (ri_n se) (ri_b st) (ri_n wt) (ri_b hd) (ri_x lk) (ri_y hg) (ri_y un) (ri_n dn) rv mt nx n 0 0 := by
  have hP : 2 ^ R ≤ 2 ^ 16 := Nat.pow_le_pow_right (by decide) hR
  have hmx : ∀ n, ri_mx (ri_pX F R) (ri_sz R) n ≤ 16 := ri_mx_le (fun b => by have := ri_cn_n (fun q => b.testBit q) R; unfold ri_sz; omega)
  refine ri_fo (fun n x => wY_largest_31 post (nI J) (nI R) (ri_n fo) (ri_n ft) (ri_b sg) (ri_n ps) (ri_n rs) (ri_n rl) (ri_n sj) (ri_n se) (ri_b st) (ri_n wt) (ri_b hd) (ri_x lk) (ri_y hg) (ri_y un) (ri_n dn) rv mt nx n (nI (ri_mx (ri_pX F R) (ri_sz R) x)) (nI x)) (2 ^ R) ?_ ?_
  · intro n
    simp only [wY_largest_31]
    simp (disch := omega) only [ri_sh1, nI_leI]
    exact br_t (Nat.le_refl _) h
  · intro n x hx p
    simp only [wY_largest_31]
    simp (disch := omega) only [ri_sh1, nI_leI]
    refine br_f (by omega) (ry_lgI (by omega) hR RV ?_)
    have hm := hmx x
    have hs : ri_sz R x ≤ 16 := by have := ri_cn_n (fun q => x.testBit q) R; unfold ri_sz; omega
    simp only [ri_mx] at p
    cases e : ri_pX F R x with
    | true =>
      have c : ri_ba (ri_bad F R x) R = false := by
        rw [← ri_pXY S]; rw [ri_pX] at e
        cases w : ri_ba (ri_cl F R x) R with
        | false => rfl
        | true => rw [w] at e; exact absurd e (by decide)
      rw [ri_cv_ok R (ri_ba_f.mp c)]
      rw [e] at p
      simp only [true_and] at p
      change (nI (ri_sz R x) ≤ _ → _) ∧ (¬ nI (ri_sz R x) ≤ _ → _)
      simp (disch := omega) only [nI_leI]
      refine br_c (fun y => ?_) (fun y => ?_)
      · rw [if_neg (fun w => w y)] at p; exact p
      · rw [if_pos y] at p; exact p
    | false =>
      have c : ri_ba (ri_bad F R x) R = true := by
        rw [← ri_pXY S]; rw [ri_pX] at e
        cases w : ri_ba (ri_cl F R x) R with
        | true => rfl
        | false => rw [w] at e; exact absurd e (by decide)
      obtain ⟨m, h1, h2⟩ := ri_cv_bad R (ri_ba_t.mp c)
      rw [e, if_neg (fun w => absurd w.1 (by decide))] at p
      rw [h2]
      exact br_t (ri_neg (by omega) (by omega)) p
theorem ri_br_s {j i : Nat} : ri_br fo ft j i = ri_br fo ft i j := by
  apply ri_beq
  simp only [ri_br, ne_eq, Bool.and_eq_true, Bool.or_eq_true, decide_eq_true_eq]
  grind
theorem ri_row_s (r q : Nat) : ri_row fo ft rl sj se r q = ri_row fo ft rl sj se q r := by
  have w : ∀ r q, ri_cf fo ft rl sj se r q = true → ri_cf fo ft rl sj se q r = true := by
    intro r q h
    obtain ⟨i, hi, h2⟩ := ri_ba_t.mp h
    obtain ⟨k, hk, h3⟩ := ri_ba_t.mp h2
    refine ri_ba_t.mpr ⟨k, hk, ri_ba_t.mpr ⟨i, hi, ?_⟩⟩
    simp only [ri_cf1, Bool.or_eq_true, decide_eq_true_eq] at h3 ⊢
    rcases h3 with z | z
    · exact Or.inl z.symm
    · rw [ri_br_s] at z; exact Or.inr z
  have e : ri_cf fo ft rl sj se r q = ri_cf fo ft rl sj se q r := ri_beq ⟨w r q, w q r⟩
  rw [ri_row, ri_row, e]
  congr 1
  exact decide_eq_decide.mpr eq_comm
theorem ry_largest {post : Int32 → SY → Prop} (hR : R ≤ 16) (HJ : ri_J J fo ft ct ej) (RL : ∀ r, rl r ≤ 5) (SJ : ∀ i, sj i < 12) (SE : ∀ i, se i < 20) (SJr : ∀ r, r < R → ∀ k, k < rl r → sj (5 * r + k) < J) (h : ∀ rv', post (nI (ri_mx (ri_pX (ri_row fo ft rl sj se) R) (ri_sz R) (2 ^ R))) (sY J R fo ft sg ps rs rl sj se st wt hd lk hg un dn rv' mt nx)) : wpY_largest post (sY J R fo ft sg ps rs rl sj se st wt hd lk hg un dn rv mt nx) := by
  refine ri_fo (fun n r => wY_largest_4 post 0 (nI J) (nI R) n (nI r) (ri_n fo) (ri_n ft) (ri_b sg) (ri_n ps) (ri_n rs) (ri_n rl) (ri_n sj) (ri_n se) (ri_b st) (ri_n wt) (ri_b hd) (ri_x lk) (ri_y hg) (ri_y un) (ri_n dn) (ri_rvs (ri_row fo ft rl sj se) R rv r) mt nx) R ?_ ?_
  · intro n
    simp only [wY_largest_4]
    simp (disch := omega) only [nI_leI]
    exact br_t (Nat.le_refl _) (ry_lgM hR (fun r q _ _ => ri_row_s r q) (fun r hr => ri_rvs_r R r hr) (h _))
  · intro n r hr p
    simp only [wY_largest_4]
    simp (disch := omega) only [nI_leI, nI_clamp, ri_in, nI_1]
    exact br_f (by omega) (ry_against hr hR HJ RL SJ SE SJr ⟨by omega, nm_e (nm_e p)⟩)
end
