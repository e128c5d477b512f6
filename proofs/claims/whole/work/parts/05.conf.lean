section
variable {J R : Nat} {fo ft ct ej ps : Nat → Nat} {sg : Nat → Bool} {rs rl sj se : Nat → Nat} {cb : Nat → Int32} {st : Nat → Bool} {wt : Nat → Nat} {hd : Nat → Bool} {lk hg un dn : Nat → Nat} {rv mt nx : Nat → Int32}
def ri_br (fo ft : Nat → Nat) (j i : Nat) : Bool := decide (j ≠ i) && (decide (fo j = fo i) || (decide (fo j = ft i) || (decide (ft j = fo i) || decide (ft j = ft i))))
def ri_cf1 (fo ft sj se : Nat → Nat) (x y : Nat) : Bool := decide (se x / 2 = se y / 2) || ri_br fo ft (sj x) (sj y)
def ri_cf (fo ft rl sj se : Nat → Nat) (r q : Nat) : Bool := ri_ba (fun i => ri_ba (fun k => ri_cf1 fo ft sj se (5 * r + i) (5 * q + k)) (rl q)) (rl r)
theorem rx_br {post : Int32 → Prop} {j i : Nat} (hj : j < 12) (hi : i < 12) (FO : ∀ j, fo j < 20) (FT : ∀ j, ft j < 20) (h : post (ri_B (ri_br fo ft j i))) : wpX_branchApart post (sX J R fo ft ct ej ps sg rs rl sj se cb st wt hd lk hg un dn) (nI j) (nI i) := by
  have := FO j
  have := FO i
  have := FT j
  have := FT i
  simp only [wpX_branchApart]
  simp (disch := omega) only [nI_clamp, ri_n_ap, ri_b_ap, ri_x_ap, ri_y_ap, ri_in, ri_B0, ri_B1, ri_nm2, ri_nm1, ri_cx_z, ri_cx_n, ri_cy_n, ri_cy_g, ri_cx_e, ri_cy_e, nI_1, nI_add, ri_mul5, ri_mul5', ri_mul2, ri_mul2', ri_add5, ri_div2, ri_two, ri_01, ri_10, nI_eq, nI_leI, nI_ltI, forall_eq, not_false_eq_true, true_and, and_true, not_true_eq_false, false_implies, implies_true, true_implies, ri_le0, ri_ge0, ri_lt0, ri_gt0, ri_eq0, ri_le1, ri_ge1, ri_lt1, ri_gt1, ri_eq1, ri_le2, ri_ge2, ri_lt2, ri_gt2, ri_eq2, ri_le3, ri_ge3, ri_lt3, ri_gt3, ri_eq3, ri_le4, ri_ge4, ri_lt4, ri_gt4, ri_eq4, ri_le5, ri_ge5, ri_lt5, ri_gt5, ri_eq5, ri_le10, ri_ge10, ri_lt10, ri_gt10, ri_eq10, ri_le12, ri_ge12, ri_lt12, ri_gt12, ri_eq12, ri_le16, ri_ge16, ri_lt16, ri_gt16, ri_eq16, ri_le20, ri_ge20, ri_lt20, ri_gt20, ri_eq20, ri_le32, ri_ge32, ri_lt32, ri_gt32, ri_eq32, ri_le80, ri_ge80, ri_lt80, ri_gt80, ri_eq80]
  by_cases z0 : j = i
  · subst z0
    simp only [ri_br, ne_eq, not_true_eq_false, decide_false, Bool.false_and] at h
    exact br_t rfl h
  · refine br_f z0 ?_
    simp only [ri_br, ne_eq, z0, not_false_eq_true, decide_true, Bool.true_and] at h
    by_cases z1 : fo j = fo i
    · simp only [z1, decide_true, Bool.true_or] at h; exact ⟨hj, hi, br_t z1 h⟩
    · simp only [z1, decide_false, Bool.false_or] at h
      by_cases z2 : fo j = ft i
      · simp only [z2, decide_true, Bool.true_or] at h; exact ⟨hj, hi, br_f z1 ⟨hj, hi, br_t z2 h⟩⟩
      · simp only [z2, decide_false, Bool.false_or] at h
        by_cases z3 : ft j = fo i
        · simp only [z3, decide_true, Bool.true_or] at h; exact ⟨hj, hi, br_f z1 ⟨hj, hi, br_f z2 ⟨hj, hi, br_t z3 h⟩⟩⟩
        · simp only [z3, decide_false, Bool.false_or] at h
          by_cases z4 : ft j = ft i
          · simp only [z4, decide_true] at h; exact ⟨hj, hi, br_f z1 ⟨hj, hi, br_f z2 ⟨hj, hi, br_f z3 ⟨hj, hi, br_t z4 h⟩⟩⟩⟩
          · simp only [z4, decide_false] at h; exact ⟨hj, hi, br_f z1 ⟨hj, hi, br_f z2 ⟨hj, hi, br_f z3 ⟨hj, hi, br_f z4 h⟩⟩⟩⟩
theorem rx_cfI {post J2 : Int32 → Prop} {r q i : Nat} (hr : r < 16) (hq : q < 16) (hi : i < 5) (RL : ∀ r, rl r ≤ 5) (SJ : ∀ i, sj i < 12) (SE : ∀ i, se i < 20) (FO : ∀ j, fo j < 20) (FT : ∀ j, ft j < 20) (h0 : ri_ba (fun k => ri_cf1 fo ft sj se (5 * r + i) (5 * q + k)) (rl q) = false → J2 (nI (i + 1))) (h1 : ri_ba (fun k => ri_cf1 fo ft sj se (5 * r + i) (5 * q + k)) (rl q) = true → post 1) : ∃ n, wX_areInConflict_15 post J2 (nI r) (nI q) (nI i) (nI J) (nI R) (ri_n fo) (ri_n ft) (ri_n ct) (ri_n ej) (ri_n ps) (ri_b sg) (ri_n rs) (ri_n rl) (ri_n sj) (ri_n se) cb (ri_b st) (ri_n wt) (ri_b hd) (ri_x lk) (ri_x hg) (ri_x un) (ri_n dn) n 0 := by
  have hl := RL q
  have := SE (5 * r + i)
  refine ri_sc (fun n k => wX_areInConflict_15 post J2 (nI r) (nI q) (nI i) (nI J) (nI R) (ri_n fo) (ri_n ft) (ri_n ct) (ri_n ej) (ri_n ps) (ri_b sg) (ri_n rs) (ri_n rl) (ri_n sj) (ri_n se) cb (ri_b st) (ri_n wt) (ri_b hd) (ri_x lk) (ri_x hg) (ri_x un) (ri_n dn) n (nI k)) (J2 (nI (i + 1))) (post 1) _ (rl q) ?_ ?_ ?_ h0 h1
  · intro n p
    simp only [wX_areInConflict_15]
    simp (disch := omega) only [nI_clamp, ri_n_ap, ri_b_ap, ri_x_ap, ri_y_ap, ri_in, ri_B0, ri_B1, ri_nm2, ri_nm1, ri_cx_z, ri_cx_n, ri_cy_n, ri_cy_g, ri_cx_e, ri_cy_e, nI_1, nI_add, ri_mul5, ri_mul5', ri_mul2, ri_mul2', ri_add5, ri_div2, ri_two, ri_01, ri_10, nI_eq, nI_leI, nI_ltI, forall_eq, not_false_eq_true, true_and, and_true, not_true_eq_false, false_implies, implies_true, true_implies, ri_le0, ri_ge0, ri_lt0, ri_gt0, ri_eq0, ri_le1, ri_ge1, ri_lt1, ri_gt1, ri_eq1, ri_le2, ri_ge2, ri_lt2, ri_gt2, ri_eq2, ri_le3, ri_ge3, ri_lt3, ri_gt3, ri_eq3, ri_le4, ri_ge4, ri_lt4, ri_gt4, ri_eq4, ri_le5, ri_ge5, ri_lt5, ri_gt5, ri_eq5, ri_le10, ri_ge10, ri_lt10, ri_gt10, ri_eq10, ri_le12, ri_ge12, ri_lt12, ri_gt12, ri_eq12, ri_le16, ri_ge16, ri_lt16, ri_gt16, ri_eq16, ri_le20, ri_ge20, ri_lt20, ri_gt20, ri_eq20, ri_le32, ri_ge32, ri_lt32, ri_gt32, ri_eq32, ri_le80, ri_ge80, ri_lt80, ri_gt80, ri_eq80]
    exact ⟨hq, br_t (Nat.le_refl _) p⟩
  · intro n k hk hf p
    have := SE (5 * q + k)
    simp only [wX_areInConflict_15]
    simp (disch := omega) only [nI_clamp, ri_n_ap, ri_b_ap, ri_x_ap, ri_y_ap, ri_in, ri_B0, ri_B1, ri_nm2, ri_nm1, ri_cx_z, ri_cx_n, ri_cy_n, ri_cy_g, ri_cx_e, ri_cy_e, nI_1, nI_add, ri_mul5, ri_mul5', ri_mul2, ri_mul2', ri_add5, ri_div2, ri_two, ri_01, ri_10, nI_eq, nI_leI, nI_ltI, forall_eq, not_false_eq_true, true_and, and_true, not_true_eq_false, false_implies, implies_true, true_implies, ri_le0, ri_ge0, ri_lt0, ri_gt0, ri_eq0, ri_le1, ri_ge1, ri_lt1, ri_gt1, ri_eq1, ri_le2, ri_ge2, ri_lt2, ri_gt2, ri_eq2, ri_le3, ri_ge3, ri_lt3, ri_gt3, ri_eq3, ri_le4, ri_ge4, ri_lt4, ri_gt4, ri_eq4, ri_le5, ri_ge5, ri_lt5, ri_gt5, ri_eq5, ri_le10, ri_ge10, ri_lt10, ri_gt10, ri_eq10, ri_le12, ri_ge12, ri_lt12, ri_gt12, ri_eq12, ri_le16, ri_ge16, ri_lt16, ri_gt16, ri_eq16, ri_le20, ri_ge20, ri_lt20, ri_gt20, ri_eq20, ri_le32, ri_ge32, ri_lt32, ri_gt32, ri_eq32, ri_le80, ri_ge80, ri_lt80, ri_gt80, ri_eq80]
    refine ⟨hq, br_f (by omega) ⟨by omega, by omega, br_c (fun _ => p) (fun z => ⟨by omega, by omega, rx_br (SJ _) (SJ _) FO FT ?_⟩)⟩⟩
    simp (disch := omega) only [nI_clamp, ri_n_ap, ri_b_ap, ri_x_ap, ri_y_ap, ri_in, ri_B0, ri_B1, ri_nm2, ri_nm1, ri_cx_z, ri_cx_n, ri_cy_n, ri_cy_g, ri_cx_e, ri_cy_e, nI_1, nI_add, ri_mul5, ri_mul5', ri_mul2, ri_mul2', ri_add5, ri_div2, ri_two, ri_01, ri_10, nI_eq, nI_leI, nI_ltI, forall_eq, not_false_eq_true, true_and, and_true, not_true_eq_false, false_implies, implies_true, true_implies, ri_le0, ri_ge0, ri_lt0, ri_gt0, ri_eq0, ri_le1, ri_ge1, ri_lt1, ri_gt1, ri_eq1, ri_le2, ri_ge2, ri_lt2, ri_gt2, ri_eq2, ri_le3, ri_ge3, ri_lt3, ri_gt3, ri_eq3, ri_le4, ri_ge4, ri_lt4, ri_gt4, ri_eq4, ri_le5, ri_ge5, ri_lt5, ri_gt5, ri_eq5, ri_le10, ri_ge10, ri_lt10, ri_gt10, ri_eq10, ri_le12, ri_ge12, ri_lt12, ri_gt12, ri_eq12, ri_le16, ri_ge16, ri_lt16, ri_gt16, ri_eq16, ri_le20, ri_ge20, ri_lt20, ri_gt20, ri_eq20, ri_le32, ri_ge32, ri_lt32, ri_gt32, ri_eq32, ri_le80, ri_ge80, ri_lt80, ri_gt80, ri_eq80]
    refine br_f ?_ p
    simpa [ri_cf1, z] using hf
  · intro n k hk hf p
    have := SE (5 * q + k)
    simp only [ri_cf1, Bool.or_eq_false_iff, decide_eq_false_iff_not] at hf
    simp only [wX_areInConflict_15]
    simp (disch := omega) only [nI_clamp, ri_n_ap, ri_b_ap, ri_x_ap, ri_y_ap, ri_in, ri_B0, ri_B1, ri_nm2, ri_nm1, ri_cx_z, ri_cx_n, ri_cy_n, ri_cy_g, ri_cx_e, ri_cy_e, nI_1, nI_add, ri_mul5, ri_mul5', ri_mul2, ri_mul2', ri_add5, ri_div2, ri_two, ri_01, ri_10, nI_eq, nI_leI, nI_ltI, forall_eq, not_false_eq_true, true_and, and_true, not_true_eq_false, false_implies, implies_true, true_implies, ri_le0, ri_ge0, ri_lt0, ri_gt0, ri_eq0, ri_le1, ri_ge1, ri_lt1, ri_gt1, ri_eq1, ri_le2, ri_ge2, ri_lt2, ri_gt2, ri_eq2, ri_le3, ri_ge3, ri_lt3, ri_gt3, ri_eq3, ri_le4, ri_ge4, ri_lt4, ri_gt4, ri_eq4, ri_le5, ri_ge5, ri_lt5, ri_gt5, ri_eq5, ri_le10, ri_ge10, ri_lt10, ri_gt10, ri_eq10, ri_le12, ri_ge12, ri_lt12, ri_gt12, ri_eq12, ri_le16, ri_ge16, ri_lt16, ri_gt16, ri_eq16, ri_le20, ri_ge20, ri_lt20, ri_gt20, ri_eq20, ri_le32, ri_ge32, ri_lt32, ri_gt32, ri_eq32, ri_le80, ri_ge80, ri_lt80, ri_gt80, ri_eq80]
    refine ⟨hq, br_f (by omega) ⟨by omega, by omega, br_f hf.1 ⟨by omega, by omega, rx_br (SJ _) (SJ _) FO FT ?_⟩⟩⟩
    simp (disch := omega) only [nI_clamp, ri_n_ap, ri_b_ap, ri_x_ap, ri_y_ap, ri_in, ri_B0, ri_B1, ri_nm2, ri_nm1, ri_cx_z, ri_cx_n, ri_cy_n, ri_cy_g, ri_cx_e, ri_cy_e, nI_1, nI_add, ri_mul5, ri_mul5', ri_mul2, ri_mul2', ri_add5, ri_div2, ri_two, ri_01, ri_10, nI_eq, nI_leI, nI_ltI, forall_eq, not_false_eq_true, true_and, and_true, not_true_eq_false, false_implies, implies_true, true_implies, ri_le0, ri_ge0, ri_lt0, ri_gt0, ri_eq0, ri_le1, ri_ge1, ri_lt1, ri_gt1, ri_eq1, ri_le2, ri_ge2, ri_lt2, ri_gt2, ri_eq2, ri_le3, ri_ge3, ri_lt3, ri_gt3, ri_eq3, ri_le4, ri_ge4, ri_lt4, ri_gt4, ri_eq4, ri_le5, ri_ge5, ri_lt5, ri_gt5, ri_eq5, ri_le10, ri_ge10, ri_lt10, ri_gt10, ri_eq10, ri_le12, ri_ge12, ri_lt12, ri_gt12, ri_eq12, ri_le16, ri_ge16, ri_lt16, ri_gt16, ri_eq16, ri_le20, ri_ge20, ri_lt20, ri_gt20, ri_eq20, ri_le32, ri_ge32, ri_lt32, ri_gt32, ri_eq32, ri_le80, ri_ge80, ri_lt80, ri_gt80, ri_eq80]
    exact br_t hf.2 p
theorem rx_cf {post : Int32 → Prop} {r q : Nat} (hr : r < 16) (hq : q < 16) (RL : ∀ r, rl r ≤ 5) (SJ : ∀ i, sj i < 12) (SE : ∀ i, se i < 20) (FO : ∀ j, fo j < 20) (FT : ∀ j, ft j < 20) (h : post (ri_B (ri_cf fo ft rl sj se r q))) : wpX_areInConflict post (sX J R fo ft ct ej ps sg rs rl sj se cb st wt hd lk hg un dn) (nI r) (nI q) := by
  have hl := RL r
  refine ri_scB (fun n i => wX_areInConflict_2 post (nI r) (nI q) (nI J) (nI R) (ri_n fo) (ri_n ft) (ri_n ct) (ri_n ej) (ri_n ps) (ri_b sg) (ri_n rs) (ri_n rl) (ri_n sj) (ri_n se) cb (ri_b st) (ri_n wt) (ri_b hd) (ri_x lk) (ri_x hg) (ri_x un) (ri_n dn) n (nI i)) post _ (rl r) h ?_ ?_ ?_
  · intro k p
    simp only [wX_areInConflict_2]
    simp (disch := omega) only [nI_clamp, ri_n_ap, ri_b_ap, ri_x_ap, ri_y_ap, ri_in, ri_B0, ri_B1, ri_nm2, ri_nm1, ri_cx_z, ri_cx_n, ri_cy_n, ri_cy_g, ri_cx_e, ri_cy_e, nI_1, nI_add, ri_mul5, ri_mul5', ri_mul2, ri_mul2', ri_add5, ri_div2, ri_two, ri_01, ri_10, nI_eq, nI_leI, nI_ltI, forall_eq, not_false_eq_true, true_and, and_true, not_true_eq_false, false_implies, implies_true, true_implies, ri_le0, ri_ge0, ri_lt0, ri_gt0, ri_eq0, ri_le1, ri_ge1, ri_lt1, ri_gt1, ri_eq1, ri_le2, ri_ge2, ri_lt2, ri_gt2, ri_eq2, ri_le3, ri_ge3, ri_lt3, ri_gt3, ri_eq3, ri_le4, ri_ge4, ri_lt4, ri_gt4, ri_eq4, ri_le5, ri_ge5, ri_lt5, ri_gt5, ri_eq5, ri_le10, ri_ge10, ri_lt10, ri_gt10, ri_eq10, ri_le12, ri_ge12, ri_lt12, ri_gt12, ri_eq12, ri_le16, ri_ge16, ri_lt16, ri_gt16, ri_eq16, ri_le20, ri_ge20, ri_lt20, ri_gt20, ri_eq20, ri_le32, ri_ge32, ri_lt32, ri_gt32, ri_eq32, ri_le80, ri_ge80, ri_lt80, ri_gt80, ri_eq80]
    exact ⟨hr, br_t (Nat.le_refl _) p⟩
  · intro k i hi hf p
    simp only [wX_areInConflict_2]
    simp (disch := omega) only [nI_clamp, ri_n_ap, ri_b_ap, ri_x_ap, ri_y_ap, ri_in, ri_B0, ri_B1, ri_nm2, ri_nm1, ri_cx_z, ri_cx_n, ri_cy_n, ri_cy_g, ri_cx_e, ri_cy_e, nI_1, nI_add, ri_mul5, ri_mul5', ri_mul2, ri_mul2', ri_add5, ri_div2, ri_two, ri_01, ri_10, nI_eq, nI_leI, nI_ltI, forall_eq, not_false_eq_true, true_and, and_true, not_true_eq_false, false_implies, implies_true, true_implies, ri_le0, ri_ge0, ri_lt0, ri_gt0, ri_eq0, ri_le1, ri_ge1, ri_lt1, ri_gt1, ri_eq1, ri_le2, ri_ge2, ri_lt2, ri_gt2, ri_eq2, ri_le3, ri_ge3, ri_lt3, ri_gt3, ri_eq3, ri_le4, ri_ge4, ri_lt4, ri_gt4, ri_eq4, ri_le5, ri_ge5, ri_lt5, ri_gt5, ri_eq5, ri_le10, ri_ge10, ri_lt10, ri_gt10, ri_eq10, ri_le12, ri_ge12, ri_lt12, ri_gt12, ri_eq12, ri_le16, ri_ge16, ri_lt16, ri_gt16, ri_eq16, ri_le20, ri_ge20, ri_lt20, ri_gt20, ri_eq20, ri_le32, ri_ge32, ri_lt32, ri_gt32, ri_eq32, ri_le80, ri_ge80, ri_lt80, ri_gt80, ri_eq80]
    exact ⟨hr, br_f (by omega) (rx_cfI hr hq (by omega) RL SJ SE FO FT (fun e => by rw [hf] at e; exact absurd e (by decide)) (fun _ => p))⟩
  · intro k i hi hf p
    simp only [wX_areInConflict_2]
    simp (disch := omega) only [nI_clamp, ri_n_ap, ri_b_ap, ri_x_ap, ri_y_ap, ri_in, ri_B0, ri_B1, ri_nm2, ri_nm1, ri_cx_z, ri_cx_n, ri_cy_n, ri_cy_g, ri_cx_e, ri_cy_e, nI_1, nI_add, ri_mul5, ri_mul5', ri_mul2, ri_mul2', ri_add5, ri_div2, ri_two, ri_01, ri_10, nI_eq, nI_leI, nI_ltI, forall_eq, not_false_eq_true, true_and, and_true, not_true_eq_false, false_implies, implies_true, true_implies, ri_le0, ri_ge0, ri_lt0, ri_gt0, ri_eq0, ri_le1, ri_ge1, ri_lt1, ri_gt1, ri_eq1, ri_le2, ri_ge2, ri_lt2, ri_gt2, ri_eq2, ri_le3, ri_ge3, ri_lt3, ri_gt3, ri_eq3, ri_le4, ri_ge4, ri_lt4, ri_gt4, ri_eq4, ri_le5, ri_ge5, ri_lt5, ri_gt5, ri_eq5, ri_le10, ri_ge10, ri_lt10, ri_gt10, ri_eq10, ri_le12, ri_ge12, ri_lt12, ri_gt12, ri_eq12, ri_le16, ri_ge16, ri_lt16, ri_gt16, ri_eq16, ri_le20, ri_ge20, ri_lt20, ri_gt20, ri_eq20, ri_le32, ri_ge32, ri_lt32, ri_gt32, ri_eq32, ri_le80, ri_ge80, ri_lt80, ri_gt80, ri_eq80]
    exact ⟨hr, br_f (by omega) (rx_cfI hr hq (by omega) RL SJ SE FO FT (fun _ => p) (fun e => by rw [hf] at e; exact absurd e (by decide)))⟩
def ri_bm (f : Nat → Bool) : Nat → Nat
  | 0 => 0
  | n + 1 => ri_bm f n + (if f n = true then 2 ^ n else 0)
theorem ri_bm_lt (f : Nat → Bool) : ∀ n, ri_bm f n < 2 ^ n := by
  intro n
  induction n with
  | zero => exact Nat.one_pos
  | succ n ih => simp only [ri_bm]; rw [Nat.pow_succ]; split <;> omega
theorem ri_p31 {n : Nat} (h : n ≤ 30) : 2 ^ n < 2 ^ 31 := Nat.pow_lt_pow_right (by decide) (by omega)
theorem ri_bm_or {f : Nat → Bool} {n : Nat} (h : f n = true) : ri_bm f n ||| 2 ^ n = ri_bm f (n + 1) := by
  have := Nat.two_pow_add_eq_or_of_lt (ri_bm_lt f n) 1
  rw [Nat.mul_one] at this
  simp only [ri_bm, h, if_true]
  rw [Nat.or_comm, ← this, Nat.add_comm]
theorem ri_bm_no {f : Nat → Bool} {n : Nat} (h : f n = false) : ri_bm f n = ri_bm f (n + 1) := by
  simp only [ri_bm, h]; rfl
theorem ri_bm_b {f : Nat → Bool} {q : Nat} : ∀ n, (ri_bm f n).testBit q = (decide (q < n) && f q) := by
  intro n
  induction n with
  | zero => simp [ri_bm]
  | succ n ih =>
    cases e : f n with
    | true =>
      rw [← ri_bm_or e, Nat.testBit_or, ih, Nat.testBit_two_pow]
      by_cases z : n = q
      · subst z; simp [e]
      · by_cases y : q < n
        · simp [y, z, show q < n + 1 by omega]
        · simp [y, z, show ¬ q < n + 1 by omega]
    | false =>
      rw [← ri_bm_no e, ih]
      by_cases z : n = q
      · subst z; simp [e]
      · by_cases y : q < n
        · simp [y, show q < n + 1 by omega]
        · simp [y, show ¬ q < n + 1 by omega]
theorem ri_bm_c {f g : Nat → Bool} {n : Nat} (h : ∀ i, i < n → f i = g i) : ri_bm f n = ri_bm g n := by
  induction n with
  | zero => rfl
  | succ n ih => simp only [ri_bm]; rw [ih (fun i hi => h i (by omega)), h n (by omega)]
def ri_row (fo ft rl sj se : Nat → Nat) (r q : Nat) : Bool := decide (r = q) || ri_cf fo ft rl sj se r q
def ri_cbs (fo ft rl sj se : Nat → Nat) (R : Nat) (cb : Nat → Int32) : Nat → Nat → Int32
  | 0 => cb
  | r + 1 => upd (ri_cbs fo ft rl sj se R cb r) r (nI (ri_bm (ri_row fo ft rl sj se r) R))
theorem ri_cbs_r : ∀ n r, r < n → ri_cbs fo ft rl sj se R cb n r = nI (ri_bm (ri_row fo ft rl sj se r) R) := by
  intro n
  induction n with
  | zero => intro r h; omega
  | succ n ih =>
    intro r h
    by_cases e : r = n
    · subst e; exact pk_us
    · exact (pk_un e).trans (ih r (by omega))
theorem ri_uu {a : Nat → Int32} {i : Nat} {x y : Int32} : upd (upd a i x) i y = upd a i y := by
  funext j; simp only [upd]; split <;> rfl
theorem rx_fcI {post : SX → Prop} {J2 : Int32 → (Nat → Int32) → (Nat → Int32) → (Nat → Int32) → (Nat → Int32) → (Nat → Int32) → (Nat → Int32) → (Nat → Int32) → (Nat → Int32) → (Nat → Int32) → (Nat → Int32) → (Nat → Int32) → (Nat → Int32) → (Nat → Int32) → (Nat → Int32) → (Nat → Int32) → (Nat → Int32) → (Nat → Int32) → (Nat → Int32) → Prop} {r : Nat} {c : Nat → Int32} (hr : r < R) (hR : R ≤ 16) (RL : ∀ r, rl r ≤ 5) (SJ : ∀ i, sj i < 12) (SE : ∀ i, se i < 20) (FO : ∀ j, fo j < 20) (FT : ∀ j, ft j < 20) (h : J2 (nI (r + 1)) (ri_n fo) (ri_n ft) (ri_n ct) (ri_n ej) (ri_n ps) (ri_b sg) (ri_n rs) (ri_n rl) (ri_n sj) (ri_n se) (upd c r (nI (ri_bm (ri_row fo ft rl sj se r) R))) (ri_b st) (ri_n wt) (ri_b hd) (ri_x lk) (ri_x hg) (ri_x un) (ri_n dn)) : ∃ n, wX_findConflicts_19 post J2 (nI r) (nI J) (nI R) n 0 (ri_n fo) (ri_n ft) (ri_n ct) (ri_n ej) (ri_n ps) (ri_b sg) (ri_n rs) (ri_n rl) (ri_n sj) (ri_n se) (upd c r 0) (ri_b st) (ri_n wt) (ri_b hd) (ri_x lk) (ri_x hg) (ri_x un) (ri_n dn) := by
  refine ri_fo (fun n q => wX_findConflicts_19 post J2 (nI r) (nI J) (nI R) n (nI q) (ri_n fo) (ri_n ft) (ri_n ct) (ri_n ej) (ri_n ps) (ri_b sg) (ri_n rs) (ri_n rl) (ri_n sj) (ri_n se) (upd c r (nI (ri_bm (ri_row fo ft rl sj se r) q))) (ri_b st) (ri_n wt) (ri_b hd) (ri_x lk) (ri_x hg) (ri_x un) (ri_n dn)) R ?_ ?_
  · intro n
    simp only [wX_findConflicts_19]
    simp (disch := omega) only [nI_clamp, ri_n_ap, ri_b_ap, ri_x_ap, ri_y_ap, ri_in, ri_B0, ri_B1, ri_nm2, ri_nm1, ri_cx_z, ri_cx_n, ri_cy_n, ri_cy_g, ri_cx_e, ri_cy_e, nI_1, nI_add, ri_mul5, ri_mul5', ri_mul2, ri_mul2', ri_add5, ri_div2, ri_two, ri_01, ri_10, nI_eq, nI_leI, nI_ltI, forall_eq, not_false_eq_true, true_and, and_true, not_true_eq_false, false_implies, implies_true, true_implies, ri_le0, ri_ge0, ri_lt0, ri_gt0, ri_eq0, ri_le1, ri_ge1, ri_lt1, ri_gt1, ri_eq1, ri_le2, ri_ge2, ri_lt2, ri_gt2, ri_eq2, ri_le3, ri_ge3, ri_lt3, ri_gt3, ri_eq3, ri_le4, ri_ge4, ri_lt4, ri_gt4, ri_eq4, ri_le5, ri_ge5, ri_lt5, ri_gt5, ri_eq5, ri_le10, ri_ge10, ri_lt10, ri_gt10, ri_eq10, ri_le12, ri_ge12, ri_lt12, ri_gt12, ri_eq12, ri_le16, ri_ge16, ri_lt16, ri_gt16, ri_eq16, ri_le20, ri_ge20, ri_lt20, ri_gt20, ri_eq20, ri_le32, ri_ge32, ri_lt32, ri_gt32, ri_eq32, ri_le80, ri_ge80, ri_lt80, ri_gt80, ri_eq80]
    exact br_t (Nat.le_refl _) h
  · intro n q hq p
    have hb := ri_bm_lt (ri_row fo ft rl sj se r) q
    have hp := ri_p31 (n := q) (by omega)
    have key : ri_row fo ft rl sj se r q = true → wX_findConflicts_41 post J2 (wX_findConflicts_19 post J2 (nI r) (nI J) (nI R) n) (nI r) (nI q) (nI J) (nI R) (ri_n fo) (ri_n ft) (ri_n ct) (ri_n ej) (ri_n ps) (ri_b sg) (ri_n rs) (ri_n rl) (ri_n sj) (ri_n se) (upd c r (nI (ri_bm (ri_row fo ft rl sj se r) q))) (ri_b st) (ri_n wt) (ri_b hd) (ri_x lk) (ri_x hg) (ri_x un) (ri_n dn) := by
      intro e
      simp only [wX_findConflicts_41]
      simp (disch := omega) only [nI_clamp, pk_us, ri_sh1, ri_or, ri_in, ri_uu, ri_bm_or e, nI_1]
      exact ⟨by omega, by omega, nm_e (nm_e p)⟩
    simp only [wX_findConflicts_19]
    simp (disch := omega) only [nI_clamp, ri_n_ap, ri_b_ap, ri_x_ap, ri_y_ap, ri_in, ri_B0, ri_B1, ri_nm2, ri_nm1, ri_cx_z, ri_cx_n, ri_cy_n, ri_cy_g, ri_cx_e, ri_cy_e, nI_1, nI_add, ri_mul5, ri_mul5', ri_mul2, ri_mul2', ri_add5, ri_div2, ri_two, ri_01, ri_10, nI_eq, nI_leI, nI_ltI, forall_eq, not_false_eq_true, true_and, and_true, not_true_eq_false, false_implies, implies_true, true_implies, ri_le0, ri_ge0, ri_lt0, ri_gt0, ri_eq0, ri_le1, ri_ge1, ri_lt1, ri_gt1, ri_eq1, ri_le2, ri_ge2, ri_lt2, ri_gt2, ri_eq2, ri_le3, ri_ge3, ri_lt3, ri_gt3, ri_eq3, ri_le4, ri_ge4, ri_lt4, ri_gt4, ri_eq4, ri_le5, ri_ge5, ri_lt5, ri_gt5, ri_eq5, ri_le10, ri_ge10, ri_lt10, ri_gt10, ri_eq10, ri_le12, ri_ge12, ri_lt12, ri_gt12, ri_eq12, ri_le16, ri_ge16, ri_lt16, ri_gt16, ri_eq16, ri_le20, ri_ge20, ri_lt20, ri_gt20, ri_eq20, ri_le32, ri_ge32, ri_lt32, ri_gt32, ri_eq32, ri_le80, ri_ge80, ri_lt80, ri_gt80, ri_eq80]
    refine br_f (by omega) (br_c (fun z => key (by simp [ri_row, z])) (fun z => rx_cf (by omega) (by omega) RL SJ SE FO FT ?_))
    simp (disch := omega) only [nI_clamp, ri_n_ap, ri_b_ap, ri_x_ap, ri_y_ap, ri_in, ri_B0, ri_B1, ri_nm2, ri_nm1, ri_cx_z, ri_cx_n, ri_cy_n, ri_cy_g, ri_cx_e, ri_cy_e, nI_1, nI_add, ri_mul5, ri_mul5', ri_mul2, ri_mul2', ri_add5, ri_div2, ri_two, ri_01, ri_10, nI_eq, nI_leI, nI_ltI, forall_eq, not_false_eq_true, true_and, and_true, not_true_eq_false, false_implies, implies_true, true_implies, ri_le0, ri_ge0, ri_lt0, ri_gt0, ri_eq0, ri_le1, ri_ge1, ri_lt1, ri_gt1, ri_eq1, ri_le2, ri_ge2, ri_lt2, ri_gt2, ri_eq2, ri_le3, ri_ge3, ri_lt3, ri_gt3, ri_eq3, ri_le4, ri_ge4, ri_lt4, ri_gt4, ri_eq4, ri_le5, ri_ge5, ri_lt5, ri_gt5, ri_eq5, ri_le10, ri_ge10, ri_lt10, ri_gt10, ri_eq10, ri_le12, ri_ge12, ri_lt12, ri_gt12, ri_eq12, ri_le16, ri_ge16, ri_lt16, ri_gt16, ri_eq16, ri_le20, ri_ge20, ri_lt20, ri_gt20, ri_eq20, ri_le32, ri_ge32, ri_lt32, ri_gt32, ri_eq32, ri_le80, ri_ge80, ri_lt80, ri_gt80, ri_eq80]
    refine br_c (fun y => ?_) (fun y => key ?_)
    · rw [← ri_bm_no (show ri_row fo ft rl sj se r q = false by simp [ri_row, z, y])] at p
      exact p
    · rw [Bool.not_eq_false] at y; simp [ri_row, y]
theorem rx_fc {post : SX → Prop} (hR : R ≤ 16) (RL : ∀ r, rl r ≤ 5) (SJ : ∀ i, sj i < 12) (SE : ∀ i, se i < 20) (FO : ∀ j, fo j < 20) (FT : ∀ j, ft j < 20) (h : post (sX J R fo ft ct ej ps sg rs rl sj se (ri_cbs fo ft rl sj se R cb R) st wt hd lk hg un dn)) : wpX_findConflicts post (sX J R fo ft ct ej ps sg rs rl sj se cb st wt hd lk hg un dn) := by
  refine ri_fo (fun n r => wX_findConflicts_2 post (nI J) (nI R) n (nI r) (ri_n fo) (ri_n ft) (ri_n ct) (ri_n ej) (ri_n ps) (ri_b sg) (ri_n rs) (ri_n rl) (ri_n sj) (ri_n se) (ri_cbs fo ft rl sj se R cb r) (ri_b st) (ri_n wt) (ri_b hd) (ri_x lk) (ri_x hg) (ri_x un) (ri_n dn)) R ?_ ?_
  · intro n
    simp only [wX_findConflicts_2]
    simp (disch := omega) only [nI_clamp, ri_n_ap, ri_b_ap, ri_x_ap, ri_y_ap, ri_in, ri_B0, ri_B1, ri_nm2, ri_nm1, ri_cx_z, ri_cx_n, ri_cy_n, ri_cy_g, ri_cx_e, ri_cy_e, nI_1, nI_add, ri_mul5, ri_mul5', ri_mul2, ri_mul2', ri_add5, ri_div2, ri_two, ri_01, ri_10, nI_eq, nI_leI, nI_ltI, forall_eq, not_false_eq_true, true_and, and_true, not_true_eq_false, false_implies, implies_true, true_implies, ri_le0, ri_ge0, ri_lt0, ri_gt0, ri_eq0, ri_le1, ri_ge1, ri_lt1, ri_gt1, ri_eq1, ri_le2, ri_ge2, ri_lt2, ri_gt2, ri_eq2, ri_le3, ri_ge3, ri_lt3, ri_gt3, ri_eq3, ri_le4, ri_ge4, ri_lt4, ri_gt4, ri_eq4, ri_le5, ri_ge5, ri_lt5, ri_gt5, ri_eq5, ri_le10, ri_ge10, ri_lt10, ri_gt10, ri_eq10, ri_le12, ri_ge12, ri_lt12, ri_gt12, ri_eq12, ri_le16, ri_ge16, ri_lt16, ri_gt16, ri_eq16, ri_le20, ri_ge20, ri_lt20, ri_gt20, ri_eq20, ri_le32, ri_ge32, ri_lt32, ri_gt32, ri_eq32, ri_le80, ri_ge80, ri_lt80, ri_gt80, ri_eq80]
    exact br_t (Nat.le_refl _) h
  · intro n r hr p
    simp only [wX_findConflicts_2]
    simp (disch := omega) only [nI_clamp, ri_in, nI_leI]
    refine br_f (by omega) ⟨by omega, nm_e (rx_fcI hr hR RL SJ SE FO FT p)⟩
/-! Y -/
def ri_df (fo ft ct ej : Nat → Nat) (j i x : Nat) : Bool := decide (ri_nd ct ej j (ri_eo fo ft j (x / 2)) ≠ 0) && (decide (ri_nd ct ej i (ri_eo fo ft i (x % 2)) ≠ 0) && (decide (ri_nd ct ej j (ri_eo fo ft j (x / 2)) ≠ ri_nd ct ej i (ri_eo fo ft i (x % 2))) && decide (ri_eo fo ft j (x / 2) = ri_eo fo ft i (x % 2))))
theorem ry_df {post : Int32 → Prop} {j i : Nat} (hj : j < 12) (hi : i < 12) (HJ : ri_J J fo ft ct ej) (h : post (ri_B (ri_ba (ri_df fo ft ct ej j i) 4))) : wpY_differ post (sY J R fo ft sg ps rs rl sj se st wt hd lk hg un dn rv mt nx) (nI j) (nI i) := by
  refine ri_scB (fun n x => wY_differ_2 post (nI j) (nI i) (nI J) (nI R) (ri_n fo) (ri_n ft) (ri_b sg) (ri_n ps) (ri_n rs) (ri_n rl) (ri_n sj) (ri_n se) (ri_b st) (ri_n wt) (ri_b hd) (ri_x lk) (ri_y hg) (ri_y un) (ri_n dn) rv mt nx n (nI x)) post _ 4 h ?_ ?_ ?_
  · intro k p
    simp only [wY_differ_2]
    simp (disch := omega) only [nI_clamp, ri_n_ap, ri_b_ap, ri_x_ap, ri_y_ap, ri_in, ri_B0, ri_B1, ri_nm2, ri_nm1, ri_cx_z, ri_cx_n, ri_cy_n, ri_cy_g, ri_cx_e, ri_cy_e, nI_1, nI_add, ri_mul5, ri_mul5', ri_mul2, ri_mul2', ri_add5, ri_div2, ri_two, ri_01, ri_10, nI_eq, nI_leI, nI_ltI, forall_eq, not_false_eq_true, true_and, and_true, not_true_eq_false, false_implies, implies_true, true_implies, ri_le0, ri_ge0, ri_lt0, ri_gt0, ri_eq0, ri_le1, ri_ge1, ri_lt1, ri_gt1, ri_eq1, ri_le2, ri_ge2, ri_lt2, ri_gt2, ri_eq2, ri_le3, ri_ge3, ri_lt3, ri_gt3, ri_eq3, ri_le4, ri_ge4, ri_lt4, ri_gt4, ri_eq4, ri_le5, ri_ge5, ri_lt5, ri_gt5, ri_eq5, ri_le10, ri_ge10, ri_lt10, ri_gt10, ri_eq10, ri_le12, ri_ge12, ri_lt12, ri_gt12, ri_eq12, ri_le16, ri_ge16, ri_lt16, ri_gt16, ri_eq16, ri_le20, ri_ge20, ri_lt20, ri_gt20, ri_eq20, ri_le32, ri_ge32, ri_lt32, ri_gt32, ri_eq32, ri_le80, ri_ge80, ri_lt80, ri_gt80, ri_eq80]
    grind
  · intro k x hx hf p
    have := ri_nd_le (ct := ct) (ej := ej) (j := j) (a := ri_eo fo ft j (x / 2))
    have := ri_nd_le (ct := ct) (ej := ej) (j := i) (a := ri_eo fo ft i (x % 2))
    have := ri_eo_lt (j := j) (z := x / 2) HJ.2.1 HJ.2.2.1
    have := ri_eo_lt (j := i) (z := x % 2) HJ.2.1 HJ.2.2.1
    simp only [ri_df, Bool.and_eq_true, decide_eq_true_eq] at hf
    simp only [wY_differ_2]
    simp (disch := omega) only [ri_rem2]
    simp (disch := omega) only [nI_clamp, ri_n_ap, ri_b_ap, ri_x_ap, ri_y_ap, ri_in, ri_B0, ri_B1, ri_nm2, ri_nm1, ri_cx_z, ri_cx_n, ri_cy_n, ri_cy_g, ri_cx_e, ri_cy_e, nI_1, nI_add, ri_mul5, ri_mul5', ri_mul2, ri_mul2', ri_add5, ri_div2, ri_two, ri_01, ri_10, nI_eq, nI_leI, nI_ltI, forall_eq, not_false_eq_true, true_and, and_true, not_true_eq_false, false_implies, implies_true, true_implies, ri_le0, ri_ge0, ri_lt0, ri_gt0, ri_eq0, ri_le1, ri_ge1, ri_lt1, ri_gt1, ri_eq1, ri_le2, ri_ge2, ri_lt2, ri_gt2, ri_eq2, ri_le3, ri_ge3, ri_lt3, ri_gt3, ri_eq3, ri_le4, ri_ge4, ri_lt4, ri_gt4, ri_eq4, ri_le5, ri_ge5, ri_lt5, ri_gt5, ri_eq5, ri_le10, ri_ge10, ri_lt10, ri_gt10, ri_eq10, ri_le12, ri_ge12, ri_lt12, ri_gt12, ri_eq12, ri_le16, ri_ge16, ri_lt16, ri_gt16, ri_eq16, ri_le20, ri_ge20, ri_lt20, ri_gt20, ri_eq20, ri_le32, ri_ge32, ri_lt32, ri_gt32, ri_eq32, ri_le80, ri_ge80, ri_lt80, ri_gt80, ri_eq80]
    refine br_f (by omega) (ry_nd hj (by omega) HJ (ry_nd hi (by omega) HJ ?_))
    simp (disch := omega) only [ri_cy_ee]
    simp (disch := omega) only [nI_clamp, ri_n_ap, ri_b_ap, ri_x_ap, ri_y_ap, ri_in, ri_B0, ri_B1, ri_nm2, ri_nm1, ri_cx_z, ri_cx_n, ri_cy_n, ri_cy_g, ri_cx_e, ri_cy_e, nI_1, nI_add, ri_mul5, ri_mul5', ri_mul2, ri_mul2', ri_add5, ri_div2, ri_two, ri_01, ri_10, nI_eq, nI_leI, nI_ltI, forall_eq, not_false_eq_true, true_and, and_true, not_true_eq_false, false_implies, implies_true, true_implies, ri_le0, ri_ge0, ri_lt0, ri_gt0, ri_eq0, ri_le1, ri_ge1, ri_lt1, ri_gt1, ri_eq1, ri_le2, ri_ge2, ri_lt2, ri_gt2, ri_eq2, ri_le3, ri_ge3, ri_lt3, ri_gt3, ri_eq3, ri_le4, ri_ge4, ri_lt4, ri_gt4, ri_eq4, ri_le5, ri_ge5, ri_lt5, ri_gt5, ri_eq5, ri_le10, ri_ge10, ri_lt10, ri_gt10, ri_eq10, ri_le12, ri_ge12, ri_lt12, ri_gt12, ri_eq12, ri_le16, ri_ge16, ri_lt16, ri_gt16, ri_eq16, ri_le20, ri_ge20, ri_lt20, ri_gt20, ri_eq20, ri_le32, ri_ge32, ri_lt32, ri_gt32, ri_eq32, ri_le80, ri_ge80, ri_lt80, ri_gt80, ri_eq80]
    refine br_f hf.1 (br_f hf.2.1 (br_f hf.2.2.1 (ry_eo hj (by omega) (ry_eo hi (by omega) ?_))))
    simp (disch := omega) only [nI_clamp, ri_n_ap, ri_b_ap, ri_x_ap, ri_y_ap, ri_in, ri_B0, ri_B1, ri_nm2, ri_nm1, ri_cx_z, ri_cx_n, ri_cy_n, ri_cy_g, ri_cx_e, ri_cy_e, nI_1, nI_add, ri_mul5, ri_mul5', ri_mul2, ri_mul2', ri_add5, ri_div2, ri_two, ri_01, ri_10, nI_eq, nI_leI, nI_ltI, forall_eq, not_false_eq_true, true_and, and_true, not_true_eq_false, false_implies, implies_true, true_implies, ri_le0, ri_ge0, ri_lt0, ri_gt0, ri_eq0, ri_le1, ri_ge1, ri_lt1, ri_gt1, ri_eq1, ri_le2, ri_ge2, ri_lt2, ri_gt2, ri_eq2, ri_le3, ri_ge3, ri_lt3, ri_gt3, ri_eq3, ri_le4, ri_ge4, ri_lt4, ri_gt4, ri_eq4, ri_le5, ri_ge5, ri_lt5, ri_gt5, ri_eq5, ri_le10, ri_ge10, ri_lt10, ri_gt10, ri_eq10, ri_le12, ri_ge12, ri_lt12, ri_gt12, ri_eq12, ri_le16, ri_ge16, ri_lt16, ri_gt16, ri_eq16, ri_le20, ri_ge20, ri_lt20, ri_gt20, ri_eq20, ri_le32, ri_ge32, ri_lt32, ri_gt32, ri_eq32, ri_le80, ri_ge80, ri_lt80, ri_gt80, ri_eq80]
    exact br_t hf.2.2.2 p
  · intro k x hx hf p
    have := ri_nd_le (ct := ct) (ej := ej) (j := j) (a := ri_eo fo ft j (x / 2))
    have := ri_nd_le (ct := ct) (ej := ej) (j := i) (a := ri_eo fo ft i (x % 2))
    have := ri_eo_lt (j := j) (z := x / 2) HJ.2.1 HJ.2.2.1
    have := ri_eo_lt (j := i) (z := x % 2) HJ.2.1 HJ.2.2.1
    simp only [wY_differ_2]
    simp (disch := omega) only [ri_rem2]
    simp (disch := omega) only [nI_clamp, ri_n_ap, ri_b_ap, ri_x_ap, ri_y_ap, ri_in, ri_B0, ri_B1, ri_nm2, ri_nm1, ri_cx_z, ri_cx_n, ri_cy_n, ri_cy_g, ri_cx_e, ri_cy_e, nI_1, nI_add, ri_mul5, ri_mul5', ri_mul2, ri_mul2', ri_add5, ri_div2, ri_two, ri_01, ri_10, nI_eq, nI_leI, nI_ltI, forall_eq, not_false_eq_true, true_and, and_true, not_true_eq_false, false_implies, implies_true, true_implies, ri_le0, ri_ge0, ri_lt0, ri_gt0, ri_eq0, ri_le1, ri_ge1, ri_lt1, ri_gt1, ri_eq1, ri_le2, ri_ge2, ri_lt2, ri_gt2, ri_eq2, ri_le3, ri_ge3, ri_lt3, ri_gt3, ri_eq3, ri_le4, ri_ge4, ri_lt4, ri_gt4, ri_eq4, ri_le5, ri_ge5, ri_lt5, ri_gt5, ri_eq5, ri_le10, ri_ge10, ri_lt10, ri_gt10, ri_eq10, ri_le12, ri_ge12, ri_lt12, ri_gt12, ri_eq12, ri_le16, ri_ge16, ri_lt16, ri_gt16, ri_eq16, ri_le20, ri_ge20, ri_lt20, ri_gt20, ri_eq20, ri_le32, ri_ge32, ri_lt32, ri_gt32, ri_eq32, ri_le80, ri_ge80, ri_lt80, ri_gt80, ri_eq80]
    refine br_f (by omega) (ry_nd hj (by omega) HJ (ry_nd hi (by omega) HJ ?_))
    simp (disch := omega) only [ri_cy_ee]
    simp (disch := omega) only [nI_clamp, ri_n_ap, ri_b_ap, ri_x_ap, ri_y_ap, ri_in, ri_B0, ri_B1, ri_nm2, ri_nm1, ri_cx_z, ri_cx_n, ri_cy_n, ri_cy_g, ri_cx_e, ri_cy_e, nI_1, nI_add, ri_mul5, ri_mul5', ri_mul2, ri_mul2', ri_add5, ri_div2, ri_two, ri_01, ri_10, nI_eq, nI_leI, nI_ltI, forall_eq, not_false_eq_true, true_and, and_true, not_true_eq_false, false_implies, implies_true, true_implies, ri_le0, ri_ge0, ri_lt0, ri_gt0, ri_eq0, ri_le1, ri_ge1, ri_lt1, ri_gt1, ri_eq1, ri_le2, ri_ge2, ri_lt2, ri_gt2, ri_eq2, ri_le3, ri_ge3, ri_lt3, ri_gt3, ri_eq3, ri_le4, ri_ge4, ri_lt4, ri_gt4, ri_eq4, ri_le5, ri_ge5, ri_lt5, ri_gt5, ri_eq5, ri_le10, ri_ge10, ri_lt10, ri_gt10, ri_eq10, ri_le12, ri_ge12, ri_lt12, ri_gt12, ri_eq12, ri_le16, ri_ge16, ri_lt16, ri_gt16, ri_eq16, ri_le20, ri_ge20, ri_lt20, ri_gt20, ri_eq20, ri_le32, ri_ge32, ri_lt32, ri_gt32, ri_eq32, ri_le80, ri_ge80, ri_lt80, ri_gt80, ri_eq80]
    refine br_c (fun _ => p) (fun y1 => br_c (fun _ => p) (fun y2 => br_c (fun _ => p) (fun y3 => ry_eo hj (by omega) (ry_eo hi (by omega) ?_))))
    simp (disch := omega) only [nI_clamp, ri_n_ap, ri_b_ap, ri_x_ap, ri_y_ap, ri_in, ri_B0, ri_B1, ri_nm2, ri_nm1, ri_cx_z, ri_cx_n, ri_cy_n, ri_cy_g, ri_cx_e, ri_cy_e, nI_1, nI_add, ri_mul5, ri_mul5', ri_mul2, ri_mul2', ri_add5, ri_div2, ri_two, ri_01, ri_10, nI_eq, nI_leI, nI_ltI, forall_eq, not_false_eq_true, true_and, and_true, not_true_eq_false, false_implies, implies_true, true_implies, ri_le0, ri_ge0, ri_lt0, ri_gt0, ri_eq0, ri_le1, ri_ge1, ri_lt1, ri_gt1, ri_eq1, ri_le2, ri_ge2, ri_lt2, ri_gt2, ri_eq2, ri_le3, ri_ge3, ri_lt3, ri_gt3, ri_eq3, ri_le4, ri_ge4, ri_lt4, ri_gt4, ri_eq4, ri_le5, ri_ge5, ri_lt5, ri_gt5, ri_eq5, ri_le10, ri_ge10, ri_lt10, ri_gt10, ri_eq10, ri_le12, ri_ge12, ri_lt12, ri_gt12, ri_eq12, ri_le16, ri_ge16, ri_lt16, ri_gt16, ri_eq16, ri_le20, ri_ge20, ri_lt20, ri_gt20, ri_eq20, ri_le32, ri_ge32, ri_lt32, ri_gt32, ri_eq32, ri_le80, ri_ge80, ri_lt80, ri_gt80, ri_eq80]
    refine br_c (fun y4 => ?_) (fun _ => p)
    have w : ri_df fo ft ct ej j i x = true := by
      simp only [ri_df, ne_eq, Bool.and_eq_true, decide_eq_true_eq]; exact ⟨y1, y2, y3, y4⟩
    rw [w] at hf; exact absurd hf (by decide)
theorem ri_dfbr {j i : Nat} (hj : j < J) (hi : i < J) (HJ : ri_J J fo ft ct ej) : ri_ba (ri_df fo ft ct ej j i) 4 = ri_br fo ft j i := by
  obtain ⟨hJ, FO, FT, CT, EJ, -, H1, H2⟩ := HJ
  have key : ∀ a j i, a < 20 → j < i → i < J → ri_at fo ft a j = true → ri_at fo ft a i = true → ri_nd ct ej j a = 1 ∧ ri_nd ct ej i a = 2 := by
    intro a j i ha hji hi aj ai
    have c1 := ri_cn_l hji aj
    have c2 := ri_cn_l hi ai
    have c3 := H1 a ha
    have c4 := CT a
    have e1 := H2 a ha j (by omega) aj
    have e2 := H2 a ha i hi ai
    rw [show ri_cn (ri_at fo ft a) j = 0 by omega, Nat.add_zero] at e1
    unfold ri_nd
    constructor
    · rw [if_neg (by omega), if_pos e1]
    · rw [if_neg (by omega), if_neg (by omega)]
  have share : ∀ a, a < 20 → j ≠ i → ri_at fo ft a j = true → ri_at fo ft a i = true → ri_nd ct ej j a ≠ 0 ∧ ri_nd ct ej i a ≠ 0 ∧ ri_nd ct ej j a ≠ ri_nd ct ej i a := by
    intro a ha hji aj ai
    rcases Nat.lt_or_gt_of_ne hji with z | z
    · obtain ⟨e1, e2⟩ := key a j i ha z hi aj ai
      rw [e1, e2]; decide
    · obtain ⟨e1, e2⟩ := key a i j ha z hj ai aj
      rw [e1, e2]; decide
  apply ri_beq
  rw [ri_ba_t]
  constructor
  · rintro ⟨x, hx, hf⟩
    simp only [ri_df, Bool.and_eq_true, decide_eq_true_eq] at hf
    obtain ⟨-, -, f3, f4⟩ := hf
    have hne : j ≠ i := by
      intro e; subst e; rw [f4] at f3; exact f3 rfl
    unfold ri_eo at f4
    simp only [ri_br, ne_eq, hne, not_false_eq_true, decide_true, Bool.true_and, Bool.or_eq_true, decide_eq_true_eq]
    split at f4 <;> split at f4 <;> simp [f4]
  · intro hb
    simp only [ri_br, ne_eq, Bool.and_eq_true, Bool.or_eq_true, decide_eq_true_eq] at hb
    obtain ⟨hne, hb⟩ := hb
    rcases hb with e | e | e | e
    · refine ⟨0, by omega, ?_⟩
      have := share (fo j) (FO j) hne (by simp [ri_at]) (by simp [ri_at, e])
      simp [ri_df, ri_eo, ← e, this]
    · refine ⟨1, by omega, ?_⟩
      have := share (fo j) (FO j) hne (by simp [ri_at]) (by simp [ri_at, e])
      simp [ri_df, ri_eo, ← e, this]
    · refine ⟨2, by omega, ?_⟩
      have := share (ft j) (FT j) hne (by simp [ri_at]) (by simp [ri_at, e])
      simp [ri_df, ri_eo, ← e, this]
    · refine ⟨3, by omega, ?_⟩
      have := share (ft j) (FT j) hne (by simp [ri_at]) (by simp [ri_at, e])
      simp [ri_df, ri_eo, ← e, this]
theorem ry_cfI {post J2 : Int32 → Prop} {r q x : Nat} (hq : q < 16) (hx : x < 80) (hxJ : sj x < J) (HJ : ri_J J fo ft ct ej) (RL : ∀ r, rl r ≤ 5) (SJ : ∀ i, sj i < 12) (SE : ∀ i, se i < 20) (SJq : ∀ k, k < rl q → sj (5 * q + k) < J) (h0 : ri_ba (fun k => ri_cf1 fo ft sj se x (5 * q + k)) (rl q) = false → J2 (nI (x + 1))) (h1 : ri_ba (fun k => ri_cf1 fo ft sj se x (5 * q + k)) (rl q) = true → post 1) : ∃ n, wY_conflict_41 post J2 (nI r) (nI q) (nI x) (nI J) (nI R) (ri_n fo) (ri_n ft) (ri_b sg) (ri_n ps) (ri_n rs) (ri_n rl) (ri_n sj) (ri_n se) (ri_b st) (ri_n wt) (ri_b hd) (ri_x lk) (ri_y hg) (ri_y un) (ri_n dn) rv mt nx n (nI (5 * q)) := by
  have hl := RL q
  have := SE x
  refine ri_sc (fun n k => wY_conflict_41 post J2 (nI r) (nI q) (nI x) (nI J) (nI R) (ri_n fo) (ri_n ft) (ri_b sg) (ri_n ps) (ri_n rs) (ri_n rl) (ri_n sj) (ri_n se) (ri_b st) (ri_n wt) (ri_b hd) (ri_x lk) (ri_y hg) (ri_y un) (ri_n dn) rv mt nx n (nI (5 * q + k))) (J2 (nI (x + 1))) (post 1) _ (rl q) ?_ ?_ ?_ h0 h1
  · intro n p
    simp only [wY_conflict_41]
    simp (disch := omega) only [nI_clamp, ri_n_ap, ri_b_ap, ri_x_ap, ri_y_ap, ri_in, ri_B0, ri_B1, ri_nm2, ri_nm1, ri_cx_z, ri_cx_n, ri_cy_n, ri_cy_g, ri_cx_e, ri_cy_e, nI_1, nI_add, ri_mul5, ri_mul5', ri_mul2, ri_mul2', ri_add5, ri_div2, ri_two, ri_01, ri_10, nI_eq, nI_leI, nI_ltI, forall_eq, not_false_eq_true, true_and, and_true, not_true_eq_false, false_implies, implies_true, true_implies, ri_le0, ri_ge0, ri_lt0, ri_gt0, ri_eq0, ri_le1, ri_ge1, ri_lt1, ri_gt1, ri_eq1, ri_le2, ri_ge2, ri_lt2, ri_gt2, ri_eq2, ri_le3, ri_ge3, ri_lt3, ri_gt3, ri_eq3, ri_le4, ri_ge4, ri_lt4, ri_gt4, ri_eq4, ri_le5, ri_ge5, ri_lt5, ri_gt5, ri_eq5, ri_le10, ri_ge10, ri_lt10, ri_gt10, ri_eq10, ri_le12, ri_ge12, ri_lt12, ri_gt12, ri_eq12, ri_le16, ri_ge16, ri_lt16, ri_gt16, ri_eq16, ri_le20, ri_ge20, ri_lt20, ri_gt20, ri_eq20, ri_le32, ri_ge32, ri_lt32, ri_gt32, ri_eq32, ri_le80, ri_ge80, ri_lt80, ri_gt80, ri_eq80]
    exact ⟨hq, br_t (Nat.le_refl _) p⟩
  · intro n k hk hf p
    have := SE (5 * q + k)
    simp only [wY_conflict_41]
    simp (disch := omega) only [nI_clamp, ri_n_ap, ri_b_ap, ri_x_ap, ri_y_ap, ri_in, ri_B0, ri_B1, ri_nm2, ri_nm1, ri_cx_z, ri_cx_n, ri_cy_n, ri_cy_g, ri_cx_e, ri_cy_e, nI_1, nI_add, ri_mul5, ri_mul5', ri_mul2, ri_mul2', ri_add5, ri_div2, ri_two, ri_01, ri_10, nI_eq, nI_leI, nI_ltI, forall_eq, not_false_eq_true, true_and, and_true, not_true_eq_false, false_implies, implies_true, true_implies, ri_le0, ri_ge0, ri_lt0, ri_gt0, ri_eq0, ri_le1, ri_ge1, ri_lt1, ri_gt1, ri_eq1, ri_le2, ri_ge2, ri_lt2, ri_gt2, ri_eq2, ri_le3, ri_ge3, ri_lt3, ri_gt3, ri_eq3, ri_le4, ri_ge4, ri_lt4, ri_gt4, ri_eq4, ri_le5, ri_ge5, ri_lt5, ri_gt5, ri_eq5, ri_le10, ri_ge10, ri_lt10, ri_gt10, ri_eq10, ri_le12, ri_ge12, ri_lt12, ri_gt12, ri_eq12, ri_le16, ri_ge16, ri_lt16, ri_gt16, ri_eq16, ri_le20, ri_ge20, ri_lt20, ri_gt20, ri_eq20, ri_le32, ri_ge32, ri_lt32, ri_gt32, ri_eq32, ri_le80, ri_ge80, ri_lt80, ri_gt80, ri_eq80]
    refine ⟨hq, br_f (by omega) ⟨by omega, by omega, br_c (fun _ => p) (fun z => ⟨by omega, by omega, ry_df (SJ _) (SJ _) HJ ?_⟩)⟩⟩
    rw [ri_dfbr hxJ (SJq k hk) HJ]
    simp (disch := omega) only [nI_clamp, ri_n_ap, ri_b_ap, ri_x_ap, ri_y_ap, ri_in, ri_B0, ri_B1, ri_nm2, ri_nm1, ri_cx_z, ri_cx_n, ri_cy_n, ri_cy_g, ri_cx_e, ri_cy_e, nI_1, nI_add, ri_mul5, ri_mul5', ri_mul2, ri_mul2', ri_add5, ri_div2, ri_two, ri_01, ri_10, nI_eq, nI_leI, nI_ltI, forall_eq, not_false_eq_true, true_and, and_true, not_true_eq_false, false_implies, implies_true, true_implies, ri_le0, ri_ge0, ri_lt0, ri_gt0, ri_eq0, ri_le1, ri_ge1, ri_lt1, ri_gt1, ri_eq1, ri_le2, ri_ge2, ri_lt2, ri_gt2, ri_eq2, ri_le3, ri_ge3, ri_lt3, ri_gt3, ri_eq3, ri_le4, ri_ge4, ri_lt4, ri_gt4, ri_eq4, ri_le5, ri_ge5, ri_lt5, ri_gt5, ri_eq5, ri_le10, ri_ge10, ri_lt10, ri_gt10, ri_eq10, ri_le12, ri_ge12, ri_lt12, ri_gt12, ri_eq12, ri_le16, ri_ge16, ri_lt16, ri_gt16, ri_eq16, ri_le20, ri_ge20, ri_lt20, ri_gt20, ri_eq20, ri_le32, ri_ge32, ri_lt32, ri_gt32, ri_eq32, ri_le80, ri_ge80, ri_lt80, ri_gt80, ri_eq80]
    refine br_f ?_ p
    simpa [ri_cf1, z] using hf
  · intro n k hk hf p
    have := SE (5 * q + k)
    simp only [ri_cf1, Bool.or_eq_false_iff, decide_eq_false_iff_not] at hf
    simp only [wY_conflict_41]
    simp (disch := omega) only [nI_clamp, ri_n_ap, ri_b_ap, ri_x_ap, ri_y_ap, ri_in, ri_B0, ri_B1, ri_nm2, ri_nm1, ri_cx_z, ri_cx_n, ri_cy_n, ri_cy_g, ri_cx_e, ri_cy_e, nI_1, nI_add, ri_mul5, ri_mul5', ri_mul2, ri_mul2', ri_add5, ri_div2, ri_two, ri_01, ri_10, nI_eq, nI_leI, nI_ltI, forall_eq, not_false_eq_true, true_and, and_true, not_true_eq_false, false_implies, implies_true, true_implies, ri_le0, ri_ge0, ri_lt0, ri_gt0, ri_eq0, ri_le1, ri_ge1, ri_lt1, ri_gt1, ri_eq1, ri_le2, ri_ge2, ri_lt2, ri_gt2, ri_eq2, ri_le3, ri_ge3, ri_lt3, ri_gt3, ri_eq3, ri_le4, ri_ge4, ri_lt4, ri_gt4, ri_eq4, ri_le5, ri_ge5, ri_lt5, ri_gt5, ri_eq5, ri_le10, ri_ge10, ri_lt10, ri_gt10, ri_eq10, ri_le12, ri_ge12, ri_lt12, ri_gt12, ri_eq12, ri_le16, ri_ge16, ri_lt16, ri_gt16, ri_eq16, ri_le20, ri_ge20, ri_lt20, ri_gt20, ri_eq20, ri_le32, ri_ge32, ri_lt32, ri_gt32, ri_eq32, ri_le80, ri_ge80, ri_lt80, ri_gt80, ri_eq80]
    refine ⟨hq, br_f (by omega) ⟨by omega, by omega, br_f hf.1 ⟨by omega, by omega, ry_df (SJ _) (SJ _) HJ ?_⟩⟩⟩
    rw [ri_dfbr hxJ (SJq k hk) HJ]
    simp (disch := omega) only [nI_clamp, ri_n_ap, ri_b_ap, ri_x_ap, ri_y_ap, ri_in, ri_B0, ri_B1, ri_nm2, ri_nm1, ri_cx_z, ri_cx_n, ri_cy_n, ri_cy_g, ri_cx_e, ri_cy_e, nI_1, nI_add, ri_mul5, ri_mul5', ri_mul2, ri_mul2', ri_add5, ri_div2, ri_two, ri_01, ri_10, nI_eq, nI_leI, nI_ltI, forall_eq, not_false_eq_true, true_and, and_true, not_true_eq_false, false_implies, implies_true, true_implies, ri_le0, ri_ge0, ri_lt0, ri_gt0, ri_eq0, ri_le1, ri_ge1, ri_lt1, ri_gt1, ri_eq1, ri_le2, ri_ge2, ri_lt2, ri_gt2, ri_eq2, ri_le3, ri_ge3, ri_lt3, ri_gt3, ri_eq3, ri_le4, ri_ge4, ri_lt4, ri_gt4, ri_eq4, ri_le5, ri_ge5, ri_lt5, ri_gt5, ri_eq5, ri_le10, ri_ge10, ri_lt10, ri_gt10, ri_eq10, ri_le12, ri_ge12, ri_lt12, ri_gt12, ri_eq12, ri_le16, ri_ge16, ri_lt16, ri_gt16, ri_eq16, ri_le20, ri_ge20, ri_lt20, ri_gt20, ri_eq20, ri_le32, ri_ge32, ri_lt32, ri_gt32, ri_eq32, ri_le80, ri_ge80, ri_lt80, ri_gt80, ri_eq80]
    exact br_t hf.2 p
theorem ry_cf {post : Int32 → Prop} {r q : Nat} (hr : r < R) (hq : q < R) (hR : R ≤ 16) (HJ : ri_J J fo ft ct ej) (RL : ∀ r, rl r ≤ 5) (SJ : ∀ i, sj i < 12) (SE : ∀ i, se i < 20) (SJr : ∀ r, r < R → ∀ k, k < rl r → sj (5 * r + k) < J) (h : post (ri_B (ri_row fo ft rl sj se r q))) : wpY_conflict post (sY J R fo ft sg ps rs rl sj se st wt hd lk hg un dn rv mt nx) (nI r) (nI q) := by
  have hl := RL r
  simp only [wpY_conflict]
  refine ry_isR1 hR hr ?_
  refine br_f (by decide) (ry_isR1 hR hq ?_)
  refine br_f (by decide) (nm_r (ri_mul5' r) ?_)
  refine ri_sc (fun n i => wY_conflict_22 post (nI r) (nI q) (nI J) (nI R) (ri_n fo) (ri_n ft) (ri_b sg) (ri_n ps) (ri_n rs) (ri_n rl) (ri_n sj) (ri_n se) (ri_b st) (ri_n wt) (ri_b hd) (ri_x lk) (ri_y hg) (ri_y un) (ri_n dn) rv mt nx n (nI (5 * r + i))) (ri_cf fo ft rl sj se r q = false) (post 1) (fun i => ri_ba (fun k => ri_cf1 fo ft sj se (5 * r + i) (5 * q + k)) (rl q)) (rl r) ?_ ?_ ?_ id ?_
  · intro k p
    simp only [wY_conflict_22]
    simp (disch := omega) only [nI_clamp, ri_n_ap, ri_b_ap, ri_x_ap, ri_y_ap, ri_in, ri_B0, ri_B1, ri_nm2, ri_nm1, ri_cx_z, ri_cx_n, ri_cy_n, ri_cy_g, ri_cx_e, ri_cy_e, nI_1, nI_add, ri_mul5, ri_mul5', ri_mul2, ri_mul2', ri_add5, ri_div2, ri_two, ri_01, ri_10, nI_eq, nI_leI, nI_ltI, forall_eq, not_false_eq_true, true_and, and_true, not_true_eq_false, false_implies, implies_true, true_implies, ri_le0, ri_ge0, ri_lt0, ri_gt0, ri_eq0, ri_le1, ri_ge1, ri_lt1, ri_gt1, ri_eq1, ri_le2, ri_ge2, ri_lt2, ri_gt2, ri_eq2, ri_le3, ri_ge3, ri_lt3, ri_gt3, ri_eq3, ri_le4, ri_ge4, ri_lt4, ri_gt4, ri_eq4, ri_le5, ri_ge5, ri_lt5, ri_gt5, ri_eq5, ri_le10, ri_ge10, ri_lt10, ri_gt10, ri_eq10, ri_le12, ri_ge12, ri_lt12, ri_gt12, ri_eq12, ri_le16, ri_ge16, ri_lt16, ri_gt16, ri_eq16, ri_le20, ri_ge20, ri_lt20, ri_gt20, ri_eq20, ri_le32, ri_ge32, ri_lt32, ri_gt32, ri_eq32, ri_le80, ri_ge80, ri_lt80, ri_gt80, ri_eq80]
    refine ⟨by omega, br_t (Nat.le_refl _) ?_⟩
    rw [ri_row, p, Bool.or_false] at h
    refine br_c (fun z => ?_) (fun z => ?_)
    · rw [decide_eq_true z] at h; exact h
    · rw [decide_eq_false z] at h; exact h
  · intro k i hi hf p
    simp only [wY_conflict_22]
    simp (disch := omega) only [nI_clamp, ri_n_ap, ri_b_ap, ri_x_ap, ri_y_ap, ri_in, ri_B0, ri_B1, ri_nm2, ri_nm1, ri_cx_z, ri_cx_n, ri_cy_n, ri_cy_g, ri_cx_e, ri_cy_e, nI_1, nI_add, ri_mul5, ri_mul5', ri_mul2, ri_mul2', ri_add5, ri_div2, ri_two, ri_01, ri_10, nI_eq, nI_leI, nI_ltI, forall_eq, not_false_eq_true, true_and, and_true, not_true_eq_false, false_implies, implies_true, true_implies, ri_le0, ri_ge0, ri_lt0, ri_gt0, ri_eq0, ri_le1, ri_ge1, ri_lt1, ri_gt1, ri_eq1, ri_le2, ri_ge2, ri_lt2, ri_gt2, ri_eq2, ri_le3, ri_ge3, ri_lt3, ri_gt3, ri_eq3, ri_le4, ri_ge4, ri_lt4, ri_gt4, ri_eq4, ri_le5, ri_ge5, ri_lt5, ri_gt5, ri_eq5, ri_le10, ri_ge10, ri_lt10, ri_gt10, ri_eq10, ri_le12, ri_ge12, ri_lt12, ri_gt12, ri_eq12, ri_le16, ri_ge16, ri_lt16, ri_gt16, ri_eq16, ri_le20, ri_ge20, ri_lt20, ri_gt20, ri_eq20, ri_le32, ri_ge32, ri_lt32, ri_gt32, ri_eq32, ri_le80, ri_ge80, ri_lt80, ri_gt80, ri_eq80]
    exact ⟨by omega, br_f (by omega) (ry_cfI (by omega) (by omega) (SJr r hr i hi) HJ RL SJ SE (SJr q hq) (fun e => by rw [hf] at e; exact absurd e (by decide)) (fun _ => p))⟩
  · intro k i hi hf p
    simp only [wY_conflict_22]
    simp (disch := omega) only [nI_clamp, ri_n_ap, ri_b_ap, ri_x_ap, ri_y_ap, ri_in, ri_B0, ri_B1, ri_nm2, ri_nm1, ri_cx_z, ri_cx_n, ri_cy_n, ri_cy_g, ri_cx_e, ri_cy_e, nI_1, nI_add, ri_mul5, ri_mul5', ri_mul2, ri_mul2', ri_add5, ri_div2, ri_two, ri_01, ri_10, nI_eq, nI_leI, nI_ltI, forall_eq, not_false_eq_true, true_and, and_true, not_true_eq_false, false_implies, implies_true, true_implies, ri_le0, ri_ge0, ri_lt0, ri_gt0, ri_eq0, ri_le1, ri_ge1, ri_lt1, ri_gt1, ri_eq1, ri_le2, ri_ge2, ri_lt2, ri_gt2, ri_eq2, ri_le3, ri_ge3, ri_lt3, ri_gt3, ri_eq3, ri_le4, ri_ge4, ri_lt4, ri_gt4, ri_eq4, ri_le5, ri_ge5, ri_lt5, ri_gt5, ri_eq5, ri_le10, ri_ge10, ri_lt10, ri_gt10, ri_eq10, ri_le12, ri_ge12, ri_lt12, ri_gt12, ri_eq12, ri_le16, ri_ge16, ri_lt16, ri_gt16, ri_eq16, ri_le20, ri_ge20, ri_lt20, ri_gt20, ri_eq20, ri_le32, ri_ge32, ri_lt32, ri_gt32, ri_eq32, ri_le80, ri_ge80, ri_lt80, ri_gt80, ri_eq80]
    exact ⟨by omega, br_f (by omega) (ry_cfI (by omega) (by omega) (SJr r hr i hi) HJ RL SJ SE (SJr q hq) (fun _ => p) (fun e => by rw [hf] at e; exact absurd e (by decide)))⟩
  · intro e
    rw [ri_row, show ri_cf fo ft rl sj se r q = true from e, Bool.or_true] at h
    exact h
end
