section
variable {J R : Nat} {fo ft ct ej ps : Nat → Nat} {sg : Nat → Bool} {rs rl sj se : Nat → Nat} {cb : Nat → Int32} {st : Nat → Bool} {wt : Nat → Nat} {hd : Nat → Bool} {lk hg un dn : Nat → Nat} {rv mt nx : Nat → Int32}
theorem ri_cy_e' {v m : Nat} (h : v < 2 ^ 31) (hm : m < 2 ^ 31) : (nI m = ri_cy v) ↔ v = m + 1 := by
  rw [← ri_cy_e h hm]; exact eq_comm
def ri_J (J : Nat) (fo ft ct ej : Nat → Nat) : Prop := J ≤ 12 ∧ (∀ j, fo j < 20) ∧ (∀ j, ft j < 20) ∧ (∀ a, ct a ≤ 2) ∧ (∀ i, ej i < 12) ∧ (∀ j, j < J → fo j / 2 ≠ ft j / 2) ∧ (∀ a, a < 20 → ct a = ri_cn (ri_at fo ft a) J) ∧ (∀ a, a < 20 → ∀ j, j < J → ri_at fo ft a j = true → ej (2 * a + ri_cn (ri_at fo ft a) j) = j)
theorem ry_in1 {post : Int32 → Prop} {p q : Int32} (h0 : ¬ p < 0) (h1 : ¬ q < p) (h : post 1) : wpY_in post (sY J R fo ft sg ps rs rl sj se st wt hd lk hg un dn rv mt nx) p 0 q := br_f h0 (br_f h1 h)
theorem ry_in0 {post : Int32 → Prop} {p q : Int32} (h1 : p < 0 ∨ q < p) (h : post 0) : wpY_in post (sY J R fo ft sg ps rs rl sj se st wt hd lk hg un dn rv mt nx) p 0 q := by
  rcases h1 with z | z
  · exact br_t z h
  · exact br_c (fun _ => h) (fun _ => br_t z h)
theorem ry_isR1 {post : Int32 → Prop} {r : Nat} (hR : R ≤ 16) (hr : r < R) (h : post 1) : wpY_isRoute post (sY J R fo ft sg ps rs rl sj se st wt hd lk hg un dn rv mt nx) (nI r) := by
  simp only [wpY_isRoute]
  refine ry_in1 (nI_pos (by omega)) ?_ ⟨rfl, h⟩
  rw [ri_sub1 (by omega)]
  exact nI_nlt (by omega) (by omega)
theorem ry_isR0 {post : Int32 → Prop} {v : Int32} (hR : R ≤ 16) (hv : v < 0 ∨ nI R ≤ v) (h : post 0) : wpY_isRoute post (sY J R fo ft sg ps rs rl sj se st wt hd lk hg un dn rv mt nx) v := by
  simp only [wpY_isRoute]
  refine ry_in0 ?_ ⟨rfl, h⟩
  by_cases z : v < 0
  · exact Or.inl z
  · right
    have hv := hv.resolve_left z
    obtain ⟨m, hm, rfl⟩ := nI_of z
    rw [nI_leI (by omega) hm] at hv
    rw [Int32.lt_iff_toInt_lt, nI_toInt hm, show (1 : Int32) = nI 1 from rfl, pk_sub_toInt (by omega) (by omega)]
    omega
theorem rx_isR1 {post : Int32 → Prop} {r : Nat} (hR : R ≤ 16) (hr : r < R) (h : post 1) : wpX_isRoute post (sX J R fo ft ct ej ps sg rs rl sj se cb st wt hd lk hg un dn) (nI r) := br_f (nI_pos (by omega)) (br_f (nI_ge hr (by omega)) h)
theorem rx_isR0 {post : Int32 → Prop} {v : Int32} (hv : v < 0 ∨ nI R ≤ v) (h : post 0) : wpX_isRoute post (sX J R fo ft ct ej ps sg rs rl sj se cb st wt hd lk hg un dn) v := by
  rcases hv with z | z
  · exact br_t z h
  · exact br_c (fun _ => h) (fun _ => br_t z h)
theorem rx_isE1 {post : Int32 → Prop} {a : Nat} (ha : a < 20) (h : post 1) : wpX_isEnd post (sX J R fo ft ct ej ps sg rs rl sj se cb st wt hd lk hg un dn) (nI a) := br_f (nI_pos (by omega)) (br_f (nI_ge (b := 20) ha (by omega)) h)
theorem rx_isE0 {post : Int32 → Prop} {v : Int32} (hv : v < 0 ∨ nI 20 ≤ v) (h : post 0) : wpX_isEnd post (sX J R fo ft ct ej ps sg rs rl sj se cb st wt hd lk hg un dn) v := by
  rcases hv with z | z
  · exact br_t z h
  · exact br_c (fun _ => h) (fun _ => br_t z h)
theorem rx_isT1 {post : Int32 → Prop} {a : Nat} (ha : a < 3) (h : post 1) : wpX_isTrain post (sX J R fo ft ct ej ps sg rs rl sj se cb st wt hd lk hg un dn) (nI a) := br_f (nI_pos (by omega)) (br_f (nI_ge (b := 3) ha (by omega)) h)
theorem rx_isT0 {post : Int32 → Prop} {v : Int32} (hv : v < 0 ∨ nI 3 ≤ v) (h : post 0) : wpX_isTrain post (sX J R fo ft ct ej ps sg rs rl sj se cb st wt hd lk hg un dn) v := by
  rcases hv with z | z
  · exact br_t z h
  · exact br_c (fun _ => h) (fun _ => br_t z h)
theorem rx_isS1 {post : Int32 → Prop} {a : Nat} (ha : a < 10) (h : post 1) : wpX_isSection post (sX J R fo ft ct ej ps sg rs rl sj se cb st wt hd lk hg un dn) (nI a) := br_f (nI_pos (by omega)) (br_f (nI_ge (b := 10) ha (by omega)) h)
theorem rx_isS0 {post : Int32 → Prop} {v : Int32} (hv : v < 0 ∨ nI 10 ≤ v) (h : post 0) : wpX_isSection post (sX J R fo ft ct ej ps sg rs rl sj se cb st wt hd lk hg un dn) v := by
  rcases hv with z | z
  · exact br_t z h
  · exact br_c (fun _ => h) (fun _ => br_t z h)
theorem ri_cut (v : Int32) {N : Nat} (hN : N < 2 ^ 31) : (v < 0 ∨ nI N ≤ v) ∨ ∃ j, j < N ∧ v = nI j := by
  rcases pk_ix v hN with z | z | z
  · exact Or.inl (Or.inl z)
  · exact Or.inl (Or.inr z)
  · exact Or.inr z
theorem ry_inN0 {post : Int32 → Prop} {v : Int32} (N : Nat) (hN : N < 2 ^ 30) (hv : v < 0 ∨ nI (N + 1) ≤ v) (h : post 0) : wpY_in post (sY J R fo ft sg ps rs rl sj se st wt hd lk hg un dn rv mt nx) v 0 (nI N) := by
  refine ry_in0 ?_ h
  rcases hv with z | z
  · exact Or.inl z
  · by_cases y : v < 0
    · exact Or.inl y
    · right
      obtain ⟨m, hm, rfl⟩ := nI_of y
      rw [nI_leI (by omega) hm] at z
      exact nI_lt (by omega) hm
theorem ry_inN1 {post : Int32 → Prop} {a : Nat} (N : Nat) (hN : N < 2 ^ 30) (ha : a < N + 1) (h : post 1) : wpY_in post (sY J R fo ft sg ps rs rl sj se st wt hd lk hg un dn rv mt nx) (nI a) 0 (nI N) :=
  ry_in1 (nI_pos (by omega)) (nI_nlt (by omega) (by omega)) h
theorem ry_busy {post : Int32 → Prop} (HG : ∀ t, hg t ≤ 20) (h : post (ri_B (ri_busy 16 st hg))) : wpY_isBusy post (sY J R fo ft sg ps rs rl sj se st wt hd lk hg un dn rv mt nx) := by
  have h2 : ri_ba (fun t => decide (hg t ≠ 0)) 3 = false → ∃ n, wY_isBusy_26 post (nI J) (nI R) (ri_n fo) (ri_n ft) (ri_b sg) (ri_n ps) (ri_n rs) (ri_n rl) (ri_n sj) (ri_n se) (ri_b st) (ri_n wt) (ri_b hd) (ri_x lk) (ri_y hg) (ri_y un) (ri_n dn) rv mt nx n 0 := by
    intro z
    rw [ri_busy, z, Bool.false_or] at h
    refine ri_scB (fun k i => wY_isBusy_26 post (nI J) (nI R) (ri_n fo) (ri_n ft) (ri_b sg) (ri_n ps) (ri_n rs) (ri_n rl) (ri_n sj) (ri_n se) (ri_b st) (ri_n wt) (ri_b hd) (ri_x lk) (ri_y hg) (ri_y un) (ri_n dn) rv mt nx k (nI i)) post st 16 h ?_ ?_ ?_
    · intro k p
      simp only [wY_isBusy_26]
      simp (disch := omega) only [nI_clamp, ri_n_ap, ri_b_ap, ri_x_ap, ri_y_ap, ri_in, ri_B0, ri_B1, ri_nm2, ri_nm1, ri_cx_z, ri_cx_n, ri_cy_n, ri_cy_g, ri_cx_e, ri_cy_e, nI_1, nI_add, ri_mul5, ri_mul5', ri_mul2, ri_mul2', ri_add5, ri_div2, ri_two, ri_01, ri_10, nI_eq, nI_leI, nI_ltI, forall_eq, not_false_eq_true, true_and, and_true, not_true_eq_false, false_implies, implies_true, true_implies, ri_le0, ri_ge0, ri_lt0, ri_gt0, ri_eq0, ri_le1, ri_ge1, ri_lt1, ri_gt1, ri_eq1, ri_le2, ri_ge2, ri_lt2, ri_gt2, ri_eq2, ri_le3, ri_ge3, ri_lt3, ri_gt3, ri_eq3, ri_le4, ri_ge4, ri_lt4, ri_gt4, ri_eq4, ri_le5, ri_ge5, ri_lt5, ri_gt5, ri_eq5, ri_le10, ri_ge10, ri_lt10, ri_gt10, ri_eq10, ri_le12, ri_ge12, ri_lt12, ri_gt12, ri_eq12, ri_le16, ri_ge16, ri_lt16, ri_gt16, ri_eq16, ri_le20, ri_ge20, ri_lt20, ri_gt20, ri_eq20, ri_le32, ri_ge32, ri_lt32, ri_gt32, ri_eq32, ri_le80, ri_ge80, ri_lt80, ri_gt80, ri_eq80]
      grind
    · intro k i hi hf p
      simp only [wY_isBusy_26]
      simp (disch := omega) only [nI_clamp, ri_n_ap, ri_b_ap, ri_x_ap, ri_y_ap, ri_in, ri_B0, ri_B1, ri_nm2, ri_nm1, ri_cx_z, ri_cx_n, ri_cy_n, ri_cy_g, ri_cx_e, ri_cy_e, nI_1, nI_add, ri_mul5, ri_mul5', ri_mul2, ri_mul2', ri_add5, ri_div2, ri_two, ri_01, ri_10, nI_eq, nI_leI, nI_ltI, forall_eq, not_false_eq_true, true_and, and_true, not_true_eq_false, false_implies, implies_true, true_implies, ri_le0, ri_ge0, ri_lt0, ri_gt0, ri_eq0, ri_le1, ri_ge1, ri_lt1, ri_gt1, ri_eq1, ri_le2, ri_ge2, ri_lt2, ri_gt2, ri_eq2, ri_le3, ri_ge3, ri_lt3, ri_gt3, ri_eq3, ri_le4, ri_ge4, ri_lt4, ri_gt4, ri_eq4, ri_le5, ri_ge5, ri_lt5, ri_gt5, ri_eq5, ri_le10, ri_ge10, ri_lt10, ri_gt10, ri_eq10, ri_le12, ri_ge12, ri_lt12, ri_gt12, ri_eq12, ri_le16, ri_ge16, ri_lt16, ri_gt16, ri_eq16, ri_le20, ri_ge20, ri_lt20, ri_gt20, ri_eq20, ri_le32, ri_ge32, ri_lt32, ri_gt32, ri_eq32, ri_le80, ri_ge80, ri_lt80, ri_gt80, ri_eq80]
      grind
    · intro k i hi hf p
      simp only [wY_isBusy_26]
      simp (disch := omega) only [nI_clamp, ri_n_ap, ri_b_ap, ri_x_ap, ri_y_ap, ri_in, ri_B0, ri_B1, ri_nm2, ri_nm1, ri_cx_z, ri_cx_n, ri_cy_n, ri_cy_g, ri_cx_e, ri_cy_e, nI_1, nI_add, ri_mul5, ri_mul5', ri_mul2, ri_mul2', ri_add5, ri_div2, ri_two, ri_01, ri_10, nI_eq, nI_leI, nI_ltI, forall_eq, not_false_eq_true, true_and, and_true, not_true_eq_false, false_implies, implies_true, true_implies, ri_le0, ri_ge0, ri_lt0, ri_gt0, ri_eq0, ri_le1, ri_ge1, ri_lt1, ri_gt1, ri_eq1, ri_le2, ri_ge2, ri_lt2, ri_gt2, ri_eq2, ri_le3, ri_ge3, ri_lt3, ri_gt3, ri_eq3, ri_le4, ri_ge4, ri_lt4, ri_gt4, ri_eq4, ri_le5, ri_ge5, ri_lt5, ri_gt5, ri_eq5, ri_le10, ri_ge10, ri_lt10, ri_gt10, ri_eq10, ri_le12, ri_ge12, ri_lt12, ri_gt12, ri_eq12, ri_le16, ri_ge16, ri_lt16, ri_gt16, ri_eq16, ri_le20, ri_ge20, ri_lt20, ri_gt20, ri_eq20, ri_le32, ri_ge32, ri_lt32, ri_gt32, ri_eq32, ri_le80, ri_ge80, ri_lt80, ri_gt80, ri_eq80]
      grind
  refine ri_sc (fun k i => wY_isBusy_2 post (nI J) (nI R) (ri_n fo) (ri_n ft) (ri_b sg) (ri_n ps) (ri_n rs) (ri_n rl) (ri_n sj) (ri_n se) (ri_b st) (ri_n wt) (ri_b hd) (ri_x lk) (ri_y hg) (ri_y un) (ri_n dn) rv mt nx k (nI i)) (∃ n, wY_isBusy_26 post (nI J) (nI R) (ri_n fo) (ri_n ft) (ri_b sg) (ri_n ps) (ri_n rs) (ri_n rl) (ri_n sj) (ri_n se) (ri_b st) (ri_n wt) (ri_b hd) (ri_x lk) (ri_y hg) (ri_y un) (ri_n dn) rv mt nx n 0) (post 1) (fun t => decide (hg t ≠ 0)) 3 ?_ ?_ ?_ h2 (fun e => by rw [ri_busy, e] at h; exact h)
  · intro k p
    simp only [wY_isBusy_2]
    simp (disch := omega) only [nI_clamp, ri_n_ap, ri_b_ap, ri_x_ap, ri_y_ap, ri_in, ri_B0, ri_B1, ri_nm2, ri_nm1, ri_cx_z, ri_cx_n, ri_cy_n, ri_cy_g, ri_cx_e, ri_cy_e, nI_1, nI_add, ri_mul5, ri_mul5', ri_mul2, ri_mul2', ri_add5, ri_div2, ri_two, ri_01, ri_10, nI_eq, nI_leI, nI_ltI, forall_eq, not_false_eq_true, true_and, and_true, not_true_eq_false, false_implies, implies_true, true_implies, ri_le0, ri_ge0, ri_lt0, ri_gt0, ri_eq0, ri_le1, ri_ge1, ri_lt1, ri_gt1, ri_eq1, ri_le2, ri_ge2, ri_lt2, ri_gt2, ri_eq2, ri_le3, ri_ge3, ri_lt3, ri_gt3, ri_eq3, ri_le4, ri_ge4, ri_lt4, ri_gt4, ri_eq4, ri_le5, ri_ge5, ri_lt5, ri_gt5, ri_eq5, ri_le10, ri_ge10, ri_lt10, ri_gt10, ri_eq10, ri_le12, ri_ge12, ri_lt12, ri_gt12, ri_eq12, ri_le16, ri_ge16, ri_lt16, ri_gt16, ri_eq16, ri_le20, ri_ge20, ri_lt20, ri_gt20, ri_eq20, ri_le32, ri_ge32, ri_lt32, ri_gt32, ri_eq32, ri_le80, ri_ge80, ri_lt80, ri_gt80, ri_eq80]
    grind
  · intro k i hi hf p
    have := HG i
    simp only [wY_isBusy_2]
    simp (disch := omega) only [nI_clamp, ri_n_ap, ri_b_ap, ri_x_ap, ri_y_ap, ri_in, ri_B0, ri_B1, ri_nm2, ri_nm1, ri_cx_z, ri_cx_n, ri_cy_n, ri_cy_g, ri_cx_e, ri_cy_e, nI_1, nI_add, ri_mul5, ri_mul5', ri_mul2, ri_mul2', ri_add5, ri_div2, ri_two, ri_01, ri_10, nI_eq, nI_leI, nI_ltI, forall_eq, not_false_eq_true, true_and, and_true, not_true_eq_false, false_implies, implies_true, true_implies, ri_le0, ri_ge0, ri_lt0, ri_gt0, ri_eq0, ri_le1, ri_ge1, ri_lt1, ri_gt1, ri_eq1, ri_le2, ri_ge2, ri_lt2, ri_gt2, ri_eq2, ri_le3, ri_ge3, ri_lt3, ri_gt3, ri_eq3, ri_le4, ri_ge4, ri_lt4, ri_gt4, ri_eq4, ri_le5, ri_ge5, ri_lt5, ri_gt5, ri_eq5, ri_le10, ri_ge10, ri_lt10, ri_gt10, ri_eq10, ri_le12, ri_ge12, ri_lt12, ri_gt12, ri_eq12, ri_le16, ri_ge16, ri_lt16, ri_gt16, ri_eq16, ri_le20, ri_ge20, ri_lt20, ri_gt20, ri_eq20, ri_le32, ri_ge32, ri_lt32, ri_gt32, ri_eq32, ri_le80, ri_ge80, ri_lt80, ri_gt80, ri_eq80]
    grind
  · intro k i hi hf p
    have := HG i
    simp only [wY_isBusy_2]
    simp (disch := omega) only [nI_clamp, ri_n_ap, ri_b_ap, ri_x_ap, ri_y_ap, ri_in, ri_B0, ri_B1, ri_nm2, ri_nm1, ri_cx_z, ri_cx_n, ri_cy_n, ri_cy_g, ri_cx_e, ri_cy_e, nI_1, nI_add, ri_mul5, ri_mul5', ri_mul2, ri_mul2', ri_add5, ri_div2, ri_two, ri_01, ri_10, nI_eq, nI_leI, nI_ltI, forall_eq, not_false_eq_true, true_and, and_true, not_true_eq_false, false_implies, implies_true, true_implies, ri_le0, ri_ge0, ri_lt0, ri_gt0, ri_eq0, ri_le1, ri_ge1, ri_lt1, ri_gt1, ri_eq1, ri_le2, ri_ge2, ri_lt2, ri_gt2, ri_eq2, ri_le3, ri_ge3, ri_lt3, ri_gt3, ri_eq3, ri_le4, ri_ge4, ri_lt4, ri_gt4, ri_eq4, ri_le5, ri_ge5, ri_lt5, ri_gt5, ri_eq5, ri_le10, ri_ge10, ri_lt10, ri_gt10, ri_eq10, ri_le12, ri_ge12, ri_lt12, ri_gt12, ri_eq12, ri_le16, ri_ge16, ri_lt16, ri_gt16, ri_eq16, ri_le20, ri_ge20, ri_lt20, ri_gt20, ri_eq20, ri_le32, ri_ge32, ri_lt32, ri_gt32, ri_eq32, ri_le80, ri_ge80, ri_lt80, ri_gt80, ri_eq80]
    grind
theorem ry_occ {post : Int32 → Prop} {s : Nat} (hs : s < 100) (HG : ∀ t, hg t ≤ 20) (h : post (ri_B (ri_occ hg s))) : wpY_isOccupied post (sY J R fo ft sg ps rs rl sj se st wt hd lk hg un dn rv mt nx) (nI s) := by
  refine ri_scB (fun k i => wY_isOccupied_2 post (nI s) (nI J) (nI R) (ri_n fo) (ri_n ft) (ri_b sg) (ri_n ps) (ri_n rs) (ri_n rl) (ri_n sj) (ri_n se) (ri_b st) (ri_n wt) (ri_b hd) (ri_x lk) (ri_y hg) (ri_y un) (ri_n dn) rv mt nx k (nI i)) post _ 3 h ?_ ?_ ?_
  · intro k p
    simp only [wY_isOccupied_2]
    simp (disch := omega) only [nI_clamp, ri_n_ap, ri_b_ap, ri_x_ap, ri_y_ap, ri_in, ri_B0, ri_B1, ri_nm2, ri_nm1, ri_cx_z, ri_cx_n, ri_cy_n, ri_cy_g, ri_cx_e, ri_cy_e, nI_1, nI_add, ri_mul5, ri_mul5', ri_mul2, ri_mul2', ri_add5, ri_div2, ri_two, ri_01, ri_10, nI_eq, nI_leI, nI_ltI, forall_eq, not_false_eq_true, true_and, and_true, not_true_eq_false, false_implies, implies_true, true_implies, ri_le0, ri_ge0, ri_lt0, ri_gt0, ri_eq0, ri_le1, ri_ge1, ri_lt1, ri_gt1, ri_eq1, ri_le2, ri_ge2, ri_lt2, ri_gt2, ri_eq2, ri_le3, ri_ge3, ri_lt3, ri_gt3, ri_eq3, ri_le4, ri_ge4, ri_lt4, ri_gt4, ri_eq4, ri_le5, ri_ge5, ri_lt5, ri_gt5, ri_eq5, ri_le10, ri_ge10, ri_lt10, ri_gt10, ri_eq10, ri_le12, ri_ge12, ri_lt12, ri_gt12, ri_eq12, ri_le16, ri_ge16, ri_lt16, ri_gt16, ri_eq16, ri_le20, ri_ge20, ri_lt20, ri_gt20, ri_eq20, ri_le32, ri_ge32, ri_lt32, ri_gt32, ri_eq32, ri_le80, ri_ge80, ri_lt80, ri_gt80, ri_eq80]
    grind
  · intro k i hi hf p
    have := HG i
    simp only [Bool.and_eq_true, decide_eq_true_eq] at hf
    simp only [wY_isOccupied_2]
    simp (disch := omega) only [nI_clamp, ri_y_ap, ri_cy_p hf.1]
    simp (disch := omega) only [nI_clamp, ri_n_ap, ri_b_ap, ri_x_ap, ri_y_ap, ri_in, ri_B0, ri_B1, ri_nm2, ri_nm1, ri_cx_z, ri_cx_n, ri_cy_n, ri_cy_g, ri_cx_e, ri_cy_e, nI_1, nI_add, ri_mul5, ri_mul5', ri_mul2, ri_mul2', ri_add5, ri_div2, ri_two, ri_01, ri_10, nI_eq, nI_leI, nI_ltI, forall_eq, not_false_eq_true, true_and, and_true, not_true_eq_false, false_implies, implies_true, true_implies, ri_le0, ri_ge0, ri_lt0, ri_gt0, ri_eq0, ri_le1, ri_ge1, ri_lt1, ri_gt1, ri_eq1, ri_le2, ri_ge2, ri_lt2, ri_gt2, ri_eq2, ri_le3, ri_ge3, ri_lt3, ri_gt3, ri_eq3, ri_le4, ri_ge4, ri_lt4, ri_gt4, ri_eq4, ri_le5, ri_ge5, ri_lt5, ri_gt5, ri_eq5, ri_le10, ri_ge10, ri_lt10, ri_gt10, ri_eq10, ri_le12, ri_ge12, ri_lt12, ri_gt12, ri_eq12, ri_le16, ri_ge16, ri_lt16, ri_gt16, ri_eq16, ri_le20, ri_ge20, ri_lt20, ri_gt20, ri_eq20, ri_le32, ri_ge32, ri_lt32, ri_gt32, ri_eq32, ri_le80, ri_ge80, ri_lt80, ri_gt80, ri_eq80]
    grind
  · intro k i hi hf p
    have := HG i
    simp only [wY_isOccupied_2]
    by_cases z : hg i = 0
    · simp (disch := omega) only [nI_clamp, ri_n_ap, ri_b_ap, ri_x_ap, ri_y_ap, ri_in, ri_B0, ri_B1, ri_nm2, ri_nm1, ri_cx_z, ri_cx_n, ri_cy_n, ri_cy_g, ri_cx_e, ri_cy_e, nI_1, nI_add, ri_mul5, ri_mul5', ri_mul2, ri_mul2', ri_add5, ri_div2, ri_two, ri_01, ri_10, nI_eq, nI_leI, nI_ltI, forall_eq, not_false_eq_true, true_and, and_true, not_true_eq_false, false_implies, implies_true, true_implies, ri_le0, ri_ge0, ri_lt0, ri_gt0, ri_eq0, ri_le1, ri_ge1, ri_lt1, ri_gt1, ri_eq1, ri_le2, ri_ge2, ri_lt2, ri_gt2, ri_eq2, ri_le3, ri_ge3, ri_lt3, ri_gt3, ri_eq3, ri_le4, ri_ge4, ri_lt4, ri_gt4, ri_eq4, ri_le5, ri_ge5, ri_lt5, ri_gt5, ri_eq5, ri_le10, ri_ge10, ri_lt10, ri_gt10, ri_eq10, ri_le12, ri_ge12, ri_lt12, ri_gt12, ri_eq12, ri_le16, ri_ge16, ri_lt16, ri_gt16, ri_eq16, ri_le20, ri_ge20, ri_lt20, ri_gt20, ri_eq20, ri_le32, ri_ge32, ri_lt32, ri_gt32, ri_eq32, ri_le80, ri_ge80, ri_lt80, ri_gt80, ri_eq80]
      grind
    · simp only [z, ne_eq, not_false_eq_true, decide_true, Bool.true_and, decide_eq_false_iff_not] at hf
      simp (disch := omega) only [nI_clamp, ri_y_ap, ri_cy_p z]
      simp (disch := omega) only [nI_clamp, ri_n_ap, ri_b_ap, ri_x_ap, ri_y_ap, ri_in, ri_B0, ri_B1, ri_nm2, ri_nm1, ri_cx_z, ri_cx_n, ri_cy_n, ri_cy_g, ri_cx_e, ri_cy_e, nI_1, nI_add, ri_mul5, ri_mul5', ri_mul2, ri_mul2', ri_add5, ri_div2, ri_two, ri_01, ri_10, nI_eq, nI_leI, nI_ltI, forall_eq, not_false_eq_true, true_and, and_true, not_true_eq_false, false_implies, implies_true, true_implies, ri_le0, ri_ge0, ri_lt0, ri_gt0, ri_eq0, ri_le1, ri_ge1, ri_lt1, ri_gt1, ri_eq1, ri_le2, ri_ge2, ri_lt2, ri_gt2, ri_eq2, ri_le3, ri_ge3, ri_lt3, ri_gt3, ri_eq3, ri_le4, ri_ge4, ri_lt4, ri_gt4, ri_eq4, ri_le5, ri_ge5, ri_lt5, ri_gt5, ri_eq5, ri_le10, ri_ge10, ri_lt10, ri_gt10, ri_eq10, ri_le12, ri_ge12, ri_lt12, ri_gt12, ri_eq12, ri_le16, ri_ge16, ri_lt16, ri_gt16, ri_eq16, ri_le20, ri_ge20, ri_lt20, ri_gt20, ri_eq20, ri_le32, ri_ge32, ri_lt32, ri_gt32, ri_eq32, ri_le80, ri_ge80, ri_lt80, ri_gt80, ri_eq80]
      grind
def ri_used (hg un : Nat → Nat) (r : Nat) : Bool := ri_ba (fun t => decide (hg t ≠ 0) && decide (un t = r + 1)) 3
theorem ry_used {post : Int32 → Prop} {r : Nat} (hr : r < 100) (HG : ∀ t, hg t ≤ 20) (UN : ∀ t, un t ≤ 16) (h : post (ri_B (ri_used hg un r))) : wpY_isUsed post (sY J R fo ft sg ps rs rl sj se st wt hd lk hg un dn rv mt nx) (nI r) := by
  refine ri_scB (fun k i => wY_isUsed_2 post (nI r) (nI J) (nI R) (ri_n fo) (ri_n ft) (ri_b sg) (ri_n ps) (ri_n rs) (ri_n rl) (ri_n sj) (ri_n se) (ri_b st) (ri_n wt) (ri_b hd) (ri_x lk) (ri_y hg) (ri_y un) (ri_n dn) rv mt nx k (nI i)) post _ 3 h ?_ ?_ ?_
  · intro k p
    simp only [wY_isUsed_2]
    simp (disch := omega) only [nI_clamp, ri_n_ap, ri_b_ap, ri_x_ap, ri_y_ap, ri_in, ri_B0, ri_B1, ri_nm2, ri_nm1, ri_cx_z, ri_cx_n, ri_cy_n, ri_cy_g, ri_cx_e, ri_cy_e, nI_1, nI_add, ri_mul5, ri_mul5', ri_mul2, ri_mul2', ri_add5, ri_div2, ri_two, ri_01, ri_10, nI_eq, nI_leI, nI_ltI, forall_eq, not_false_eq_true, true_and, and_true, not_true_eq_false, false_implies, implies_true, true_implies, ri_le0, ri_ge0, ri_lt0, ri_gt0, ri_eq0, ri_le1, ri_ge1, ri_lt1, ri_gt1, ri_eq1, ri_le2, ri_ge2, ri_lt2, ri_gt2, ri_eq2, ri_le3, ri_ge3, ri_lt3, ri_gt3, ri_eq3, ri_le4, ri_ge4, ri_lt4, ri_gt4, ri_eq4, ri_le5, ri_ge5, ri_lt5, ri_gt5, ri_eq5, ri_le10, ri_ge10, ri_lt10, ri_gt10, ri_eq10, ri_le12, ri_ge12, ri_lt12, ri_gt12, ri_eq12, ri_le16, ri_ge16, ri_lt16, ri_gt16, ri_eq16, ri_le20, ri_ge20, ri_lt20, ri_gt20, ri_eq20, ri_le32, ri_ge32, ri_lt32, ri_gt32, ri_eq32, ri_le80, ri_ge80, ri_lt80, ri_gt80, ri_eq80]
    grind
  · intro k i hi hf p
    have := HG i
    have := UN i
    simp only [Bool.and_eq_true, decide_eq_true_eq] at hf
    simp only [wY_isUsed_2]
    simp (disch := omega) only [nI_clamp, ri_n_ap, ri_b_ap, ri_x_ap, ri_y_ap, ri_in, ri_B0, ri_B1, ri_nm2, ri_nm1, ri_cx_z, ri_cx_n, ri_cy_n, ri_cy_g, ri_cx_e, ri_cy_e, nI_1, nI_add, ri_mul5, ri_mul5', ri_mul2, ri_mul2', ri_add5, ri_div2, ri_two, ri_01, ri_10, nI_eq, nI_leI, nI_ltI, forall_eq, not_false_eq_true, true_and, and_true, not_true_eq_false, false_implies, implies_true, true_implies, ri_le0, ri_ge0, ri_lt0, ri_gt0, ri_eq0, ri_le1, ri_ge1, ri_lt1, ri_gt1, ri_eq1, ri_le2, ri_ge2, ri_lt2, ri_gt2, ri_eq2, ri_le3, ri_ge3, ri_lt3, ri_gt3, ri_eq3, ri_le4, ri_ge4, ri_lt4, ri_gt4, ri_eq4, ri_le5, ri_ge5, ri_lt5, ri_gt5, ri_eq5, ri_le10, ri_ge10, ri_lt10, ri_gt10, ri_eq10, ri_le12, ri_ge12, ri_lt12, ri_gt12, ri_eq12, ri_le16, ri_ge16, ri_lt16, ri_gt16, ri_eq16, ri_le20, ri_ge20, ri_lt20, ri_gt20, ri_eq20, ri_le32, ri_ge32, ri_lt32, ri_gt32, ri_eq32, ri_le80, ri_ge80, ri_lt80, ri_gt80, ri_eq80]
    grind
  · intro k i hi hf p
    have := HG i
    have := UN i
    simp only [Bool.and_eq_false_iff, decide_eq_false_iff_not] at hf
    simp only [wY_isUsed_2]
    simp (disch := omega) only [nI_clamp, ri_n_ap, ri_b_ap, ri_x_ap, ri_y_ap, ri_in, ri_B0, ri_B1, ri_nm2, ri_nm1, ri_cx_z, ri_cx_n, ri_cy_n, ri_cy_g, ri_cx_e, ri_cy_e, nI_1, nI_add, ri_mul5, ri_mul5', ri_mul2, ri_mul2', ri_add5, ri_div2, ri_two, ri_01, ri_10, nI_eq, nI_leI, nI_ltI, forall_eq, not_false_eq_true, true_and, and_true, not_true_eq_false, false_implies, implies_true, true_implies, ri_le0, ri_ge0, ri_lt0, ri_gt0, ri_eq0, ri_le1, ri_ge1, ri_lt1, ri_gt1, ri_eq1, ri_le2, ri_ge2, ri_lt2, ri_gt2, ri_eq2, ri_le3, ri_ge3, ri_lt3, ri_gt3, ri_eq3, ri_le4, ri_ge4, ri_lt4, ri_gt4, ri_eq4, ri_le5, ri_ge5, ri_lt5, ri_gt5, ri_eq5, ri_le10, ri_ge10, ri_lt10, ri_gt10, ri_eq10, ri_le12, ri_ge12, ri_lt12, ri_gt12, ri_eq12, ri_le16, ri_ge16, ri_lt16, ri_gt16, ri_eq16, ri_le20, ri_ge20, ri_lt20, ri_gt20, ri_eq20, ri_le32, ri_ge32, ri_lt32, ri_gt32, ri_eq32, ri_le80, ri_ge80, ri_lt80, ri_gt80, ri_eq80]
    grind
theorem ry_rfor {post : Int32 → Prop} {t : Nat} (ht : t < 3) (hz : hg t ≠ 0) (hR : R ≤ 16) (HG : ∀ t, hg t ≤ 20) (RS : ∀ r, rs r < 20) (WT : ∀ r, wt r ≤ 3) (UN : ∀ t, un t ≤ 16) (h : post (ri_cy (ri_ff (fun r => decide (rs r = hg t - 1) && (st r && (decide (wt r = 0) && !ri_used hg un r))) R))) : wpY_routeFor post (sY J R fo ft sg ps rs rl sj se st wt hd lk hg un dn rv mt nx) (nI t) := by
  have hg0 := HG t
  refine ri_sf (fun k i => wY_routeFor_2 post (nI t) (nI J) (nI R) (ri_n fo) (ri_n ft) (ri_b sg) (ri_n ps) (ri_n rs) (ri_n rl) (ri_n sj) (ri_n se) (ri_b st) (ri_n wt) (ri_b hd) (ri_x lk) (ri_y hg) (ri_y un) (ri_n dn) rv mt nx k (nI i)) (fun m => post (ri_cy m)) _ R h ?_ ?_ ?_
  · intro k p
    simp only [wY_routeFor_2]
    simp (disch := omega) only [nI_clamp, ri_n_ap, ri_b_ap, ri_x_ap, ri_y_ap, ri_in, ri_B0, ri_B1, ri_nm2, ri_nm1, ri_cx_z, ri_cx_n, ri_cy_n, ri_cy_g, ri_cx_e, ri_cy_e, nI_1, nI_add, ri_mul5, ri_mul5', ri_mul2, ri_mul2', ri_add5, ri_div2, ri_two, ri_01, ri_10, nI_eq, nI_leI, nI_ltI, forall_eq, not_false_eq_true, true_and, and_true, not_true_eq_false, false_implies, implies_true, true_implies, ri_le0, ri_ge0, ri_lt0, ri_gt0, ri_eq0, ri_le1, ri_ge1, ri_lt1, ri_gt1, ri_eq1, ri_le2, ri_ge2, ri_lt2, ri_gt2, ri_eq2, ri_le3, ri_ge3, ri_lt3, ri_gt3, ri_eq3, ri_le4, ri_ge4, ri_lt4, ri_gt4, ri_eq4, ri_le5, ri_ge5, ri_lt5, ri_gt5, ri_eq5, ri_le10, ri_ge10, ri_lt10, ri_gt10, ri_eq10, ri_le12, ri_ge12, ri_lt12, ri_gt12, ri_eq12, ri_le16, ri_ge16, ri_lt16, ri_gt16, ri_eq16, ri_le20, ri_ge20, ri_lt20, ri_gt20, ri_eq20, ri_le32, ri_ge32, ri_lt32, ri_gt32, ri_eq32, ri_le80, ri_ge80, ri_lt80, ri_gt80, ri_eq80]
    exact br_t (Nat.le_refl _) p
  · intro k i hi hf p
    have := RS i
    have := WT i
    simp only [Bool.and_eq_true, decide_eq_true_eq, Bool.not_eq_true'] at hf
    simp only [wY_routeFor_2]
    simp (disch := omega) only [nI_clamp, ri_y_ap, ri_cy_p hz]
    simp (disch := omega) only [nI_clamp, ri_n_ap, ri_b_ap, ri_x_ap, ri_y_ap, ri_in, ri_B0, ri_B1, ri_nm2, ri_nm1, ri_cx_z, ri_cx_n, ri_cy_n, ri_cy_g, ri_cx_e, ri_cy_e, nI_1, nI_add, ri_mul5, ri_mul5', ri_mul2, ri_mul2', ri_add5, ri_div2, ri_two, ri_01, ri_10, nI_eq, nI_leI, nI_ltI, forall_eq, not_false_eq_true, true_and, and_true, not_true_eq_false, false_implies, implies_true, true_implies, ri_le0, ri_ge0, ri_lt0, ri_gt0, ri_eq0, ri_le1, ri_ge1, ri_lt1, ri_gt1, ri_eq1, ri_le2, ri_ge2, ri_lt2, ri_gt2, ri_eq2, ri_le3, ri_ge3, ri_lt3, ri_gt3, ri_eq3, ri_le4, ri_ge4, ri_lt4, ri_gt4, ri_eq4, ri_le5, ri_ge5, ri_lt5, ri_gt5, ri_eq5, ri_le10, ri_ge10, ri_lt10, ri_gt10, ri_eq10, ri_le12, ri_ge12, ri_lt12, ri_gt12, ri_eq12, ri_le16, ri_ge16, ri_lt16, ri_gt16, ri_eq16, ri_le20, ri_ge20, ri_lt20, ri_gt20, ri_eq20, ri_le32, ri_ge32, ri_lt32, ri_gt32, ri_eq32, ri_le80, ri_ge80, ri_lt80, ri_gt80, ri_eq80]
    refine br_f (by omega) ⟨by omega, br_f (by rw [hf.2.1]; decide) ⟨by omega, br_t hf.2.2.1 ⟨by omega, by omega, br_t hf.1 ?_⟩⟩⟩
    refine ry_used (by omega) HG UN ?_
    simp (disch := omega) only [nI_clamp, ri_n_ap, ri_b_ap, ri_x_ap, ri_y_ap, ri_in, ri_B0, ri_B1, ri_nm2, ri_nm1, ri_cx_z, ri_cx_n, ri_cy_n, ri_cy_g, ri_cx_e, ri_cy_e, nI_1, nI_add, ri_mul5, ri_mul5', ri_mul2, ri_mul2', ri_add5, ri_div2, ri_two, ri_01, ri_10, nI_eq, nI_leI, nI_ltI, forall_eq, not_false_eq_true, true_and, and_true, not_true_eq_false, false_implies, implies_true, true_implies, ri_le0, ri_ge0, ri_lt0, ri_gt0, ri_eq0, ri_le1, ri_ge1, ri_lt1, ri_gt1, ri_eq1, ri_le2, ri_ge2, ri_lt2, ri_gt2, ri_eq2, ri_le3, ri_ge3, ri_lt3, ri_gt3, ri_eq3, ri_le4, ri_ge4, ri_lt4, ri_gt4, ri_eq4, ri_le5, ri_ge5, ri_lt5, ri_gt5, ri_eq5, ri_le10, ri_ge10, ri_lt10, ri_gt10, ri_eq10, ri_le12, ri_ge12, ri_lt12, ri_gt12, ri_eq12, ri_le16, ri_ge16, ri_lt16, ri_gt16, ri_eq16, ri_le20, ri_ge20, ri_lt20, ri_gt20, ri_eq20, ri_le32, ri_ge32, ri_lt32, ri_gt32, ri_eq32, ri_le80, ri_ge80, ri_lt80, ri_gt80, ri_eq80]
    exact br_t hf.2.2.2 p
  · intro k i hi hf p
    have := RS i
    have := WT i
    simp only [wY_routeFor_2]
    simp (disch := omega) only [nI_clamp, ri_y_ap, ri_cy_p hz]
    simp (disch := omega) only [nI_clamp, ri_n_ap, ri_b_ap, ri_x_ap, ri_y_ap, ri_in, ri_B0, ri_B1, ri_nm2, ri_nm1, ri_cx_z, ri_cx_n, ri_cy_n, ri_cy_g, ri_cx_e, ri_cy_e, nI_1, nI_add, ri_mul5, ri_mul5', ri_mul2, ri_mul2', ri_add5, ri_div2, ri_two, ri_01, ri_10, nI_eq, nI_leI, nI_ltI, forall_eq, not_false_eq_true, true_and, and_true, not_true_eq_false, false_implies, implies_true, true_implies, ri_le0, ri_ge0, ri_lt0, ri_gt0, ri_eq0, ri_le1, ri_ge1, ri_lt1, ri_gt1, ri_eq1, ri_le2, ri_ge2, ri_lt2, ri_gt2, ri_eq2, ri_le3, ri_ge3, ri_lt3, ri_gt3, ri_eq3, ri_le4, ri_ge4, ri_lt4, ri_gt4, ri_eq4, ri_le5, ri_ge5, ri_lt5, ri_gt5, ri_eq5, ri_le10, ri_ge10, ri_lt10, ri_gt10, ri_eq10, ri_le12, ri_ge12, ri_lt12, ri_gt12, ri_eq12, ri_le16, ri_ge16, ri_lt16, ri_gt16, ri_eq16, ri_le20, ri_ge20, ri_lt20, ri_gt20, ri_eq20, ri_le32, ri_ge32, ri_lt32, ri_gt32, ri_eq32, ri_le80, ri_ge80, ri_lt80, ri_gt80, ri_eq80]
    refine br_f (by omega) ⟨by omega, br_c (fun _ => p) (fun z2 => ⟨by omega, br_c (fun z3 => ⟨by omega, by omega, br_c (fun z1 => ?_) (fun _ => p)⟩) (fun _ => p)⟩)⟩
    refine ry_used (by omega) HG UN ?_
    simp (disch := omega) only [nI_clamp, ri_n_ap, ri_b_ap, ri_x_ap, ri_y_ap, ri_in, ri_B0, ri_B1, ri_nm2, ri_nm1, ri_cx_z, ri_cx_n, ri_cy_n, ri_cy_g, ri_cx_e, ri_cy_e, nI_1, nI_add, ri_mul5, ri_mul5', ri_mul2, ri_mul2', ri_add5, ri_div2, ri_two, ri_01, ri_10, nI_eq, nI_leI, nI_ltI, forall_eq, not_false_eq_true, true_and, and_true, not_true_eq_false, false_implies, implies_true, true_implies, ri_le0, ri_ge0, ri_lt0, ri_gt0, ri_eq0, ri_le1, ri_ge1, ri_lt1, ri_gt1, ri_eq1, ri_le2, ri_ge2, ri_lt2, ri_gt2, ri_eq2, ri_le3, ri_ge3, ri_lt3, ri_gt3, ri_eq3, ri_le4, ri_ge4, ri_lt4, ri_gt4, ri_eq4, ri_le5, ri_ge5, ri_lt5, ri_gt5, ri_eq5, ri_le10, ri_ge10, ri_lt10, ri_gt10, ri_eq10, ri_le12, ri_ge12, ri_lt12, ri_gt12, ri_eq12, ri_le16, ri_ge16, ri_lt16, ri_gt16, ri_eq16, ri_le20, ri_ge20, ri_lt20, ri_gt20, ri_eq20, ri_le32, ri_ge32, ri_lt32, ri_gt32, ri_eq32, ri_le80, ri_ge80, ri_lt80, ri_gt80, ri_eq80]
    refine br_c (fun z4 => ?_) (fun _ => p)
    rw [Bool.not_eq_false] at z2
    rw [decide_eq_true z1, z2, decide_eq_true z3, z4] at hf
    exact absurd hf (by decide)
theorem ry_jats {post : Int32 → Prop} {a : Nat} (ha : a < 20) (HJ : ri_J J fo ft ct ej) (h : post (nI (ct a))) : wpY_jointsAt post (sY J R fo ft sg ps rs rl sj se st wt hd lk hg un dn rv mt nx) (nI a) := by
  obtain ⟨hJ, FO, FT, CT, EJ, -, H1, -⟩ := HJ
  rw [H1 a ha] at h
  refine ri_fo (fun k i => wY_jointsAt_4 post (nI a) (nI J) (nI R) (ri_n fo) (ri_n ft) (ri_b sg) (ri_n ps) (ri_n rs) (ri_n rl) (ri_n sj) (ri_n se) (ri_b st) (ri_n wt) (ri_b hd) (ri_x lk) (ri_y hg) (ri_y un) (ri_n dn) rv mt nx k (nI (ri_cn (ri_at fo ft a) i)) (nI i)) J ?_ ?_
  · intro k
    simp only [wY_jointsAt_4]
    simp (disch := omega) only [nI_clamp, ri_n_ap, ri_b_ap, ri_x_ap, ri_y_ap, ri_in, ri_B0, ri_B1, ri_nm2, ri_nm1, ri_cx_z, ri_cx_n, ri_cy_n, ri_cy_g, ri_cx_e, ri_cy_e, nI_1, nI_add, ri_mul5, ri_mul5', ri_mul2, ri_mul2', ri_add5, ri_div2, ri_two, ri_01, ri_10, nI_eq, nI_leI, nI_ltI, forall_eq, not_false_eq_true, true_and, and_true, not_true_eq_false, false_implies, implies_true, true_implies, ri_le0, ri_ge0, ri_lt0, ri_gt0, ri_eq0, ri_le1, ri_ge1, ri_lt1, ri_gt1, ri_eq1, ri_le2, ri_ge2, ri_lt2, ri_gt2, ri_eq2, ri_le3, ri_ge3, ri_lt3, ri_gt3, ri_eq3, ri_le4, ri_ge4, ri_lt4, ri_gt4, ri_eq4, ri_le5, ri_ge5, ri_lt5, ri_gt5, ri_eq5, ri_le10, ri_ge10, ri_lt10, ri_gt10, ri_eq10, ri_le12, ri_ge12, ri_lt12, ri_gt12, ri_eq12, ri_le16, ri_ge16, ri_lt16, ri_gt16, ri_eq16, ri_le20, ri_ge20, ri_lt20, ri_gt20, ri_eq20, ri_le32, ri_ge32, ri_lt32, ri_gt32, ri_eq32, ri_le80, ri_ge80, ri_lt80, ri_gt80, ri_eq80]
    exact br_t (Nat.le_refl _) h
  · intro k i hi p
    have := FO i
    have := FT i
    simp only [ri_cn, ri_at, Bool.or_eq_true, decide_eq_true_eq] at p
    simp only [wY_jointsAt_4]
    simp (disch := omega) only [nI_clamp, ri_n_ap, ri_b_ap, ri_x_ap, ri_y_ap, ri_in, ri_B0, ri_B1, ri_nm2, ri_nm1, ri_cx_z, ri_cx_n, ri_cy_n, ri_cy_g, ri_cx_e, ri_cy_e, nI_1, nI_add, ri_mul5, ri_mul5', ri_mul2, ri_mul2', ri_add5, ri_div2, ri_two, ri_01, ri_10, nI_eq, nI_leI, nI_ltI, forall_eq, not_false_eq_true, true_and, and_true, not_true_eq_false, false_implies, implies_true, true_implies, ri_le0, ri_ge0, ri_lt0, ri_gt0, ri_eq0, ri_le1, ri_ge1, ri_lt1, ri_gt1, ri_eq1, ri_le2, ri_ge2, ri_lt2, ri_gt2, ri_eq2, ri_le3, ri_ge3, ri_lt3, ri_gt3, ri_eq3, ri_le4, ri_ge4, ri_lt4, ri_gt4, ri_eq4, ri_le5, ri_ge5, ri_lt5, ri_gt5, ri_eq5, ri_le10, ri_ge10, ri_lt10, ri_gt10, ri_eq10, ri_le12, ri_ge12, ri_lt12, ri_gt12, ri_eq12, ri_le16, ri_ge16, ri_lt16, ri_gt16, ri_eq16, ri_le20, ri_ge20, ri_lt20, ri_gt20, ri_eq20, ri_le32, ri_ge32, ri_lt32, ri_gt32, ri_eq32, ri_le80, ri_ge80, ri_lt80, ri_gt80, ri_eq80]
    refine br_f (by omega) ⟨by omega, br_c (fun z => ?_) (fun z => ⟨by omega, br_c (fun z2 => ?_) (fun z2 => ?_)⟩)⟩
    · rw [if_pos (Or.inl z)] at p; exact p
    · rw [if_pos (Or.inr z2)] at p; exact p
    · rw [if_neg (fun w => w.elim z z2)] at p; exact p
theorem ry_jat {post : Int32 → Prop} {a q : Nat} (ha : a < 20) (hq : q < 100) (HJ : ri_J J fo ft ct ej) (h1 : q < ct a → post (nI (ej (2 * a + q)))) (h0 : ct a ≤ q → post (-1)) : wpY_jointAt post (sY J R fo ft sg ps rs rl sj se st wt hd lk hg un dn rv mt nx) (nI a) (nI q) := by
  obtain ⟨hJ, FO, FT, CT, EJ, -, H1, H2⟩ := HJ
  refine ri_sc (fun k i => wY_jointAt_5 post (nI a) (nI q) (nI J) (nI R) (ri_n fo) (ri_n ft) (ri_b sg) (ri_n ps) (ri_n rs) (ri_n rl) (ri_n sj) (ri_n se) (ri_b st) (ri_n wt) (ri_b hd) (ri_x lk) (ri_y hg) (ri_y un) (ri_n dn) rv mt nx k (nI (ri_cn (ri_at fo ft a) i)) (nI i)) (post (-1)) (post (nI (ej (2 * a + q)))) (fun i => ri_at fo ft a i && decide (ri_cn (ri_at fo ft a) i = q)) J ?_ ?_ ?_ ?_ ?_
  · intro k p
    simp only [wY_jointAt_5]
    simp (disch := omega) only [nI_clamp, ri_n_ap, ri_b_ap, ri_x_ap, ri_y_ap, ri_in, ri_B0, ri_B1, ri_nm2, ri_nm1, ri_cx_z, ri_cx_n, ri_cy_n, ri_cy_g, ri_cx_e, ri_cy_e, nI_1, nI_add, ri_mul5, ri_mul5', ri_mul2, ri_mul2', ri_add5, ri_div2, ri_two, ri_01, ri_10, nI_eq, nI_leI, nI_ltI, forall_eq, not_false_eq_true, true_and, and_true, not_true_eq_false, false_implies, implies_true, true_implies, ri_le0, ri_ge0, ri_lt0, ri_gt0, ri_eq0, ri_le1, ri_ge1, ri_lt1, ri_gt1, ri_eq1, ri_le2, ri_ge2, ri_lt2, ri_gt2, ri_eq2, ri_le3, ri_ge3, ri_lt3, ri_gt3, ri_eq3, ri_le4, ri_ge4, ri_lt4, ri_gt4, ri_eq4, ri_le5, ri_ge5, ri_lt5, ri_gt5, ri_eq5, ri_le10, ri_ge10, ri_lt10, ri_gt10, ri_eq10, ri_le12, ri_ge12, ri_lt12, ri_gt12, ri_eq12, ri_le16, ri_ge16, ri_lt16, ri_gt16, ri_eq16, ri_le20, ri_ge20, ri_lt20, ri_gt20, ri_eq20, ri_le32, ri_ge32, ri_lt32, ri_gt32, ri_eq32, ri_le80, ri_ge80, ri_lt80, ri_gt80, ri_eq80]
    exact br_t (Nat.le_refl _) p
  · intro k i hi hf p
    have := FO i
    have := FT i
    have := ri_cn_n (ri_at fo ft a) i
    simp only [Bool.and_eq_true, decide_eq_true_eq] at hf
    have e := H2 a ha i hi hf.1
    rw [hf.2] at e
    rw [e] at p
    have hf1 := hf.1
    simp only [ri_at, Bool.or_eq_true, decide_eq_true_eq] at hf1
    simp only [wY_jointAt_5, wY_jointAt_36]
    simp (disch := omega) only [nI_clamp, ri_n_ap, ri_b_ap, ri_x_ap, ri_y_ap, ri_in, ri_B0, ri_B1, ri_nm2, ri_nm1, ri_cx_z, ri_cx_n, ri_cy_n, ri_cy_g, ri_cx_e, ri_cy_e, nI_1, nI_add, ri_mul5, ri_mul5', ri_mul2, ri_mul2', ri_add5, ri_div2, ri_two, ri_01, ri_10, nI_eq, nI_leI, nI_ltI, forall_eq, not_false_eq_true, true_and, and_true, not_true_eq_false, false_implies, implies_true, true_implies, ri_le0, ri_ge0, ri_lt0, ri_gt0, ri_eq0, ri_le1, ri_ge1, ri_lt1, ri_gt1, ri_eq1, ri_le2, ri_ge2, ri_lt2, ri_gt2, ri_eq2, ri_le3, ri_ge3, ri_lt3, ri_gt3, ri_eq3, ri_le4, ri_ge4, ri_lt4, ri_gt4, ri_eq4, ri_le5, ri_ge5, ri_lt5, ri_gt5, ri_eq5, ri_le10, ri_ge10, ri_lt10, ri_gt10, ri_eq10, ri_le12, ri_ge12, ri_lt12, ri_gt12, ri_eq12, ri_le16, ri_ge16, ri_lt16, ri_gt16, ri_eq16, ri_le20, ri_ge20, ri_lt20, ri_gt20, ri_eq20, ri_le32, ri_ge32, ri_lt32, ri_gt32, ri_eq32, ri_le80, ri_ge80, ri_lt80, ri_gt80, ri_eq80]
    refine br_f (by omega) ⟨by omega, br_c (fun z => br_t hf.2 p) (fun z => ⟨by omega, br_t (hf1.resolve_left z) (br_t hf.2 p)⟩)⟩
  · intro k i hi hf p
    have := FO i
    have := FT i
    have := ri_cn_n (ri_at fo ft a) i
    simp only [ri_cn] at p
    have key : ri_at fo ft a i = true → ¬ ri_cn (ri_at fo ft a) i = q := by
      intro y z; rw [y, decide_eq_true z] at hf; exact absurd hf (by decide)
    simp only [wY_jointAt_5, wY_jointAt_36]
    simp (disch := omega) only [nI_clamp, ri_n_ap, ri_b_ap, ri_x_ap, ri_y_ap, ri_in, ri_B0, ri_B1, ri_nm2, ri_nm1, ri_cx_z, ri_cx_n, ri_cy_n, ri_cy_g, ri_cx_e, ri_cy_e, nI_1, nI_add, ri_mul5, ri_mul5', ri_mul2, ri_mul2', ri_add5, ri_div2, ri_two, ri_01, ri_10, nI_eq, nI_leI, nI_ltI, forall_eq, not_false_eq_true, true_and, and_true, not_true_eq_false, false_implies, implies_true, true_implies, ri_le0, ri_ge0, ri_lt0, ri_gt0, ri_eq0, ri_le1, ri_ge1, ri_lt1, ri_gt1, ri_eq1, ri_le2, ri_ge2, ri_lt2, ri_gt2, ri_eq2, ri_le3, ri_ge3, ri_lt3, ri_gt3, ri_eq3, ri_le4, ri_ge4, ri_lt4, ri_gt4, ri_eq4, ri_le5, ri_ge5, ri_lt5, ri_gt5, ri_eq5, ri_le10, ri_ge10, ri_lt10, ri_gt10, ri_eq10, ri_le12, ri_ge12, ri_lt12, ri_gt12, ri_eq12, ri_le16, ri_ge16, ri_lt16, ri_gt16, ri_eq16, ri_le20, ri_ge20, ri_lt20, ri_gt20, ri_eq20, ri_le32, ri_ge32, ri_lt32, ri_gt32, ri_eq32, ri_le80, ri_ge80, ri_lt80, ri_gt80, ri_eq80]
    refine br_f (by omega) ⟨by omega, br_c (fun z => ?_) (fun z => ⟨by omega, br_c (fun z2 => ?_) (fun z2 => ?_)⟩)⟩
    · have y : ri_at fo ft a i = true := by simp [ri_at, z]
      rw [if_pos y] at p; exact br_f (key y) p
    · have y : ri_at fo ft a i = true := by simp [ri_at, z2]
      rw [if_pos y] at p; exact br_f (key y) p
    · have y : ¬ ri_at fo ft a i = true := by simp [ri_at, z, z2]
      rw [if_neg y] at p; exact p
  · intro e
    refine h0 ?_
    rw [H1 a ha]
    refine Nat.le_of_not_lt fun z => ?_
    obtain ⟨i, y1, y2, y3⟩ := ri_cn_x J z
    have := ri_ba_f.mp e i y1
    simp [y2, y3] at this
  · intro e
    refine h1 ?_
    obtain ⟨i, y1, y2⟩ := ri_ba_t.mp e
    simp only [Bool.and_eq_true, decide_eq_true_eq] at y2
    rw [H1 a ha, ← y2.2]
    exact ri_cn_l y1 y2.1
def ri_eo (fo ft : Nat → Nat) (j z : Nat) : Nat := if z = 0 then fo j else ft j
def ri_nd (ct ej : Nat → Nat) (j a : Nat) : Nat := if ct a < 2 then 0 else if ej (2 * a) = j then 1 else 2
theorem ri_eo_lt {j z : Nat} (FO : ∀ j, fo j < 20) (FT : ∀ j, ft j < 20) : ri_eo fo ft j z < 20 := by
  unfold ri_eo; split
  · exact FO _
  · exact FT _
theorem ri_nd_le {j a : Nat} : ri_nd ct ej j a ≤ 2 := by
  unfold ri_nd
  split
  · omega
  · split <;> omega
theorem ry_nd0 {post : Int32 → Prop} {a j : Nat} (ha : a < 20) (hj : j < 12) (HJ : ri_J J fo ft ct ej) (h : post (ri_cy (ri_nd ct ej j a))) : wY_needed_19 post (nI j) (nI a) (nI J) (nI R) (ri_n fo) (ri_n ft) (ri_b sg) (ri_n ps) (ri_n rs) (ri_n rl) (ri_n sj) (ri_n se) (ri_b st) (ri_n wt) (ri_b hd) (ri_x lk) (ri_y hg) (ri_y un) (ri_n dn) rv mt nx := by
  simp only [wY_needed_19]
  refine ry_jats ha HJ ?_
  have := HJ.2.2.2.1 a
  unfold ri_nd at h
  simp (disch := omega) only [nI_clamp, ri_n_ap, ri_b_ap, ri_x_ap, ri_y_ap, ri_in, ri_B0, ri_B1, ri_nm2, ri_nm1, ri_cx_z, ri_cx_n, ri_cy_n, ri_cy_g, ri_cx_e, ri_cy_e, nI_1, nI_add, ri_mul5, ri_mul5', ri_mul2, ri_mul2', ri_add5, ri_div2, ri_two, ri_01, ri_10, nI_eq, nI_leI, nI_ltI, forall_eq, not_false_eq_true, true_and, and_true, not_true_eq_false, false_implies, implies_true, true_implies, ri_le0, ri_ge0, ri_lt0, ri_gt0, ri_eq0, ri_le1, ri_ge1, ri_lt1, ri_gt1, ri_eq1, ri_le2, ri_ge2, ri_lt2, ri_gt2, ri_eq2, ri_le3, ri_ge3, ri_lt3, ri_gt3, ri_eq3, ri_le4, ri_ge4, ri_lt4, ri_gt4, ri_eq4, ri_le5, ri_ge5, ri_lt5, ri_gt5, ri_eq5, ri_le10, ri_ge10, ri_lt10, ri_gt10, ri_eq10, ri_le12, ri_ge12, ri_lt12, ri_gt12, ri_eq12, ri_le16, ri_ge16, ri_lt16, ri_gt16, ri_eq16, ri_le20, ri_ge20, ri_lt20, ri_gt20, ri_eq20, ri_le32, ri_ge32, ri_lt32, ri_gt32, ri_eq32, ri_le80, ri_ge80, ri_lt80, ri_gt80, ri_eq80]
  refine br_c (fun z => ?_) (fun z => ?_)
  · refine ry_jat (q := 0) ha (by omega) HJ (fun _ => ?_) (fun y => absurd y (by omega))
    have := HJ.2.2.2.2.1 (2 * a)
    simp only [Nat.add_zero]
    simp (disch := omega) only [nI_clamp, ri_n_ap, ri_b_ap, ri_x_ap, ri_y_ap, ri_in, ri_B0, ri_B1, ri_nm2, ri_nm1, ri_cx_z, ri_cx_n, ri_cy_n, ri_cy_g, ri_cx_e, ri_cy_e, nI_1, nI_add, ri_mul5, ri_mul5', ri_mul2, ri_mul2', ri_add5, ri_div2, ri_two, ri_01, ri_10, nI_eq, nI_leI, nI_ltI, forall_eq, not_false_eq_true, true_and, and_true, not_true_eq_false, false_implies, implies_true, true_implies, ri_le0, ri_ge0, ri_lt0, ri_gt0, ri_eq0, ri_le1, ri_ge1, ri_lt1, ri_gt1, ri_eq1, ri_le2, ri_ge2, ri_lt2, ri_gt2, ri_eq2, ri_le3, ri_ge3, ri_lt3, ri_gt3, ri_eq3, ri_le4, ri_ge4, ri_lt4, ri_gt4, ri_eq4, ri_le5, ri_ge5, ri_lt5, ri_gt5, ri_eq5, ri_le10, ri_ge10, ri_lt10, ri_gt10, ri_eq10, ri_le12, ri_ge12, ri_lt12, ri_gt12, ri_eq12, ri_le16, ri_ge16, ri_lt16, ri_gt16, ri_eq16, ri_le20, ri_ge20, ri_lt20, ri_gt20, ri_eq20, ri_le32, ri_ge32, ri_lt32, ri_gt32, ri_eq32, ri_le80, ri_ge80, ri_lt80, ri_gt80, ri_eq80]
    rw [if_neg (by omega)] at h
    refine br_c (fun y => ?_) (fun y => ?_)
    · rw [if_pos y] at h; exact h
    · rw [if_neg y] at h; exact h
  · rw [if_pos (by omega)] at h; exact h
theorem ry_nd {post : Int32 → Prop} {j z : Nat} (hj : j < 12) (hz : z < 100) (HJ : ri_J J fo ft ct ej) (h : post (ri_cy (ri_nd ct ej j (ri_eo fo ft j z)))) : wpY_needed post (sY J R fo ft sg ps rs rl sj se st wt hd lk hg un dn rv mt nx) (nI j) (nI z) := by
  simp only [wpY_needed]
  simp (disch := omega) only [nI_clamp, ri_n_ap, ri_b_ap, ri_x_ap, ri_y_ap, ri_in, ri_B0, ri_B1, ri_nm2, ri_nm1, ri_cx_z, ri_cx_n, ri_cy_n, ri_cy_g, ri_cx_e, ri_cy_e, nI_1, nI_add, ri_mul5, ri_mul5', ri_mul2, ri_mul2', ri_add5, ri_div2, ri_two, ri_01, ri_10, nI_eq, nI_leI, nI_ltI, forall_eq, not_false_eq_true, true_and, and_true, not_true_eq_false, false_implies, implies_true, true_implies, ri_le0, ri_ge0, ri_lt0, ri_gt0, ri_eq0, ri_le1, ri_ge1, ri_lt1, ri_gt1, ri_eq1, ri_le2, ri_ge2, ri_lt2, ri_gt2, ri_eq2, ri_le3, ri_ge3, ri_lt3, ri_gt3, ri_eq3, ri_le4, ri_ge4, ri_lt4, ri_gt4, ri_eq4, ri_le5, ri_ge5, ri_lt5, ri_gt5, ri_eq5, ri_le10, ri_ge10, ri_lt10, ri_gt10, ri_eq10, ri_le12, ri_ge12, ri_lt12, ri_gt12, ri_eq12, ri_le16, ri_ge16, ri_lt16, ri_gt16, ri_eq16, ri_le20, ri_ge20, ri_lt20, ri_gt20, ri_eq20, ri_le32, ri_ge32, ri_lt32, ri_gt32, ri_eq32, ri_le80, ri_ge80, ri_lt80, ri_gt80, ri_eq80]
  unfold ri_eo at h
  refine br_c (fun y => ⟨hj, ?_⟩) (fun y => ⟨hj, ?_⟩)
  · rw [if_pos y] at h; exact ry_nd0 (HJ.2.1 _) hj HJ h
  · rw [if_neg y] at h; exact ry_nd0 (HJ.2.2.1 _) hj HJ h
theorem ry_eo {post : Int32 → Prop} {j z : Nat} (hj : j < 12) (hz : z < 100) (h : post (nI (ri_eo fo ft j z))) : wpY_endOf post (sY J R fo ft sg ps rs rl sj se st wt hd lk hg un dn rv mt nx) (nI j) (nI z) := by
  simp only [wpY_endOf]
  simp (disch := omega) only [nI_clamp, ri_n_ap, ri_b_ap, ri_x_ap, ri_y_ap, ri_in, ri_B0, ri_B1, ri_nm2, ri_nm1, ri_cx_z, ri_cx_n, ri_cy_n, ri_cy_g, ri_cx_e, ri_cy_e, nI_1, nI_add, ri_mul5, ri_mul5', ri_mul2, ri_mul2', ri_add5, ri_div2, ri_two, ri_01, ri_10, nI_eq, nI_leI, nI_ltI, forall_eq, not_false_eq_true, true_and, and_true, not_true_eq_false, false_implies, implies_true, true_implies, ri_le0, ri_ge0, ri_lt0, ri_gt0, ri_eq0, ri_le1, ri_ge1, ri_lt1, ri_gt1, ri_eq1, ri_le2, ri_ge2, ri_lt2, ri_gt2, ri_eq2, ri_le3, ri_ge3, ri_lt3, ri_gt3, ri_eq3, ri_le4, ri_ge4, ri_lt4, ri_gt4, ri_eq4, ri_le5, ri_ge5, ri_lt5, ri_gt5, ri_eq5, ri_le10, ri_ge10, ri_lt10, ri_gt10, ri_eq10, ri_le12, ri_ge12, ri_lt12, ri_gt12, ri_eq12, ri_le16, ri_ge16, ri_lt16, ri_gt16, ri_eq16, ri_le20, ri_ge20, ri_lt20, ri_gt20, ri_eq20, ri_le32, ri_ge32, ri_lt32, ri_gt32, ri_eq32, ri_le80, ri_ge80, ri_lt80, ri_gt80, ri_eq80]
  unfold ri_eo at h
  refine br_c (fun y => ⟨hj, ?_⟩) (fun y => ⟨hj, ?_⟩)
  · rw [if_pos y] at h; exact h
  · rw [if_neg y] at h; exact h
def ri_fst (fo ft sj : Nat → Nat) (hd : Nat → Bool) (hg : Nat → Nat) (a : Nat) : Bool := ri_occ hg (a / 2) || ri_ba (fun k => hd k && ri_at fo ft a (sj k)) 80
theorem ry_fst {post : Int32 → Prop} {a : Nat} (ha : a < 20) (HG : ∀ t, hg t ≤ 20) (SJ : ∀ i, sj i < 12) (FO : ∀ j, fo j < 20) (FT : ∀ j, ft j < 20) (h : post (ri_B (ri_fst fo ft sj hd hg a))) : wpY_isFast post (sY J R fo ft sg ps rs rl sj se st wt hd lk hg un dn rv mt nx) (nI a) := by
  simp only [wpY_isFast]
  simp (disch := omega) only [nI_clamp, ri_n_ap, ri_b_ap, ri_x_ap, ri_y_ap, ri_in, ri_B0, ri_B1, ri_nm2, ri_nm1, ri_cx_z, ri_cx_n, ri_cy_n, ri_cy_g, ri_cx_e, ri_cy_e, nI_1, nI_add, ri_mul5, ri_mul5', ri_mul2, ri_mul2', ri_add5, ri_div2, ri_two, ri_01, ri_10, nI_eq, nI_leI, nI_ltI, forall_eq, not_false_eq_true, true_and, and_true, not_true_eq_false, false_implies, implies_true, true_implies, ri_le0, ri_ge0, ri_lt0, ri_gt0, ri_eq0, ri_le1, ri_ge1, ri_lt1, ri_gt1, ri_eq1, ri_le2, ri_ge2, ri_lt2, ri_gt2, ri_eq2, ri_le3, ri_ge3, ri_lt3, ri_gt3, ri_eq3, ri_le4, ri_ge4, ri_lt4, ri_gt4, ri_eq4, ri_le5, ri_ge5, ri_lt5, ri_gt5, ri_eq5, ri_le10, ri_ge10, ri_lt10, ri_gt10, ri_eq10, ri_le12, ri_ge12, ri_lt12, ri_gt12, ri_eq12, ri_le16, ri_ge16, ri_lt16, ri_gt16, ri_eq16, ri_le20, ri_ge20, ri_lt20, ri_gt20, ri_eq20, ri_le32, ri_ge32, ri_lt32, ri_gt32, ri_eq32, ri_le80, ri_ge80, ri_lt80, ri_gt80, ri_eq80]
  refine ry_occ (by omega) HG ?_
  simp (disch := omega) only [nI_clamp, ri_n_ap, ri_b_ap, ri_x_ap, ri_y_ap, ri_in, ri_B0, ri_B1, ri_nm2, ri_nm1, ri_cx_z, ri_cx_n, ri_cy_n, ri_cy_g, ri_cx_e, ri_cy_e, nI_1, nI_add, ri_mul5, ri_mul5', ri_mul2, ri_mul2', ri_add5, ri_div2, ri_two, ri_01, ri_10, nI_eq, nI_leI, nI_ltI, forall_eq, not_false_eq_true, true_and, and_true, not_true_eq_false, false_implies, implies_true, true_implies, ri_le0, ri_ge0, ri_lt0, ri_gt0, ri_eq0, ri_le1, ri_ge1, ri_lt1, ri_gt1, ri_eq1, ri_le2, ri_ge2, ri_lt2, ri_gt2, ri_eq2, ri_le3, ri_ge3, ri_lt3, ri_gt3, ri_eq3, ri_le4, ri_ge4, ri_lt4, ri_gt4, ri_eq4, ri_le5, ri_ge5, ri_lt5, ri_gt5, ri_eq5, ri_le10, ri_ge10, ri_lt10, ri_gt10, ri_eq10, ri_le12, ri_ge12, ri_lt12, ri_gt12, ri_eq12, ri_le16, ri_ge16, ri_lt16, ri_gt16, ri_eq16, ri_le20, ri_ge20, ri_lt20, ri_gt20, ri_eq20, ri_le32, ri_ge32, ri_lt32, ri_gt32, ri_eq32, ri_le80, ri_ge80, ri_lt80, ri_gt80, ri_eq80]
  unfold ri_fst at h
  refine br_c (fun z => ?_) (fun z => ?_)
  · rw [z, Bool.false_or] at h
    refine ri_scB (fun k i => wY_isFast_14 post (nI a) (nI J) (nI R) (ri_n fo) (ri_n ft) (ri_b sg) (ri_n ps) (ri_n rs) (ri_n rl) (ri_n sj) (ri_n se) (ri_b st) (ri_n wt) (ri_b hd) (ri_x lk) (ri_y hg) (ri_y un) (ri_n dn) rv mt nx k (nI i)) post _ 80 h ?_ ?_ ?_
    · intro k p
      simp only [wY_isFast_14]
      simp (disch := omega) only [nI_clamp, ri_n_ap, ri_b_ap, ri_x_ap, ri_y_ap, ri_in, ri_B0, ri_B1, ri_nm2, ri_nm1, ri_cx_z, ri_cx_n, ri_cy_n, ri_cy_g, ri_cx_e, ri_cy_e, nI_1, nI_add, ri_mul5, ri_mul5', ri_mul2, ri_mul2', ri_add5, ri_div2, ri_two, ri_01, ri_10, nI_eq, nI_leI, nI_ltI, forall_eq, not_false_eq_true, true_and, and_true, not_true_eq_false, false_implies, implies_true, true_implies, ri_le0, ri_ge0, ri_lt0, ri_gt0, ri_eq0, ri_le1, ri_ge1, ri_lt1, ri_gt1, ri_eq1, ri_le2, ri_ge2, ri_lt2, ri_gt2, ri_eq2, ri_le3, ri_ge3, ri_lt3, ri_gt3, ri_eq3, ri_le4, ri_ge4, ri_lt4, ri_gt4, ri_eq4, ri_le5, ri_ge5, ri_lt5, ri_gt5, ri_eq5, ri_le10, ri_ge10, ri_lt10, ri_gt10, ri_eq10, ri_le12, ri_ge12, ri_lt12, ri_gt12, ri_eq12, ri_le16, ri_ge16, ri_lt16, ri_gt16, ri_eq16, ri_le20, ri_ge20, ri_lt20, ri_gt20, ri_eq20, ri_le32, ri_ge32, ri_lt32, ri_gt32, ri_eq32, ri_le80, ri_ge80, ri_lt80, ri_gt80, ri_eq80]
      grind
    · intro k i hi hf p
      have := SJ i
      have := FO (sj i)
      have := FT (sj i)
      simp only [ri_at, Bool.and_eq_true, Bool.or_eq_true, decide_eq_true_eq] at hf
      simp only [wY_isFast_14]
      simp (disch := omega) only [nI_clamp, ri_n_ap, ri_b_ap, ri_x_ap, ri_y_ap, ri_in, ri_B0, ri_B1, ri_nm2, ri_nm1, ri_cx_z, ri_cx_n, ri_cy_n, ri_cy_g, ri_cx_e, ri_cy_e, nI_1, nI_add, ri_mul5, ri_mul5', ri_mul2, ri_mul2', ri_add5, ri_div2, ri_two, ri_01, ri_10, nI_eq, nI_leI, nI_ltI, forall_eq, not_false_eq_true, true_and, and_true, not_true_eq_false, false_implies, implies_true, true_implies, ri_le0, ri_ge0, ri_lt0, ri_gt0, ri_eq0, ri_le1, ri_ge1, ri_lt1, ri_gt1, ri_eq1, ri_le2, ri_ge2, ri_lt2, ri_gt2, ri_eq2, ri_le3, ri_ge3, ri_lt3, ri_gt3, ri_eq3, ri_le4, ri_ge4, ri_lt4, ri_gt4, ri_eq4, ri_le5, ri_ge5, ri_lt5, ri_gt5, ri_eq5, ri_le10, ri_ge10, ri_lt10, ri_gt10, ri_eq10, ri_le12, ri_ge12, ri_lt12, ri_gt12, ri_eq12, ri_le16, ri_ge16, ri_lt16, ri_gt16, ri_eq16, ri_le20, ri_ge20, ri_lt20, ri_gt20, ri_eq20, ri_le32, ri_ge32, ri_lt32, ri_gt32, ri_eq32, ri_le80, ri_ge80, ri_lt80, ri_gt80, ri_eq80]
      grind
    · intro k i hi hf p
      have := SJ i
      have := FO (sj i)
      have := FT (sj i)
      simp only [ri_at, Bool.and_eq_false_iff, Bool.or_eq_false_iff, decide_eq_false_iff_not] at hf
      simp only [wY_isFast_14]
      simp (disch := omega) only [nI_clamp, ri_n_ap, ri_b_ap, ri_x_ap, ri_y_ap, ri_in, ri_B0, ri_B1, ri_nm2, ri_nm1, ri_cx_z, ri_cx_n, ri_cy_n, ri_cy_g, ri_cx_e, ri_cy_e, nI_1, nI_add, ri_mul5, ri_mul5', ri_mul2, ri_mul2', ri_add5, ri_div2, ri_two, ri_01, ri_10, nI_eq, nI_leI, nI_ltI, forall_eq, not_false_eq_true, true_and, and_true, not_true_eq_false, false_implies, implies_true, true_implies, ri_le0, ri_ge0, ri_lt0, ri_gt0, ri_eq0, ri_le1, ri_ge1, ri_lt1, ri_gt1, ri_eq1, ri_le2, ri_ge2, ri_lt2, ri_gt2, ri_eq2, ri_le3, ri_ge3, ri_lt3, ri_gt3, ri_eq3, ri_le4, ri_ge4, ri_lt4, ri_gt4, ri_eq4, ri_le5, ri_ge5, ri_lt5, ri_gt5, ri_eq5, ri_le10, ri_ge10, ri_lt10, ri_gt10, ri_eq10, ri_le12, ri_ge12, ri_lt12, ri_gt12, ri_eq12, ri_le16, ri_ge16, ri_lt16, ri_gt16, ri_eq16, ri_le20, ri_ge20, ri_lt20, ri_gt20, ri_eq20, ri_le32, ri_ge32, ri_lt32, ri_gt32, ri_eq32, ri_le80, ri_ge80, ri_lt80, ri_gt80, ri_eq80]
      grind
  · rw [Bool.not_eq_false] at z; rw [z] at h; exact h
def ri_sk (fo ft ct ej ps sj : Nat → Nat) (hd : Nat → Bool) (hg : Nat → Nat) (k z : Nat) : Bool :=
  decide (ri_nd ct ej (sj k) (ri_eo fo ft (sj k) z) ≠ 0) && (decide (ri_nd ct ej (sj k) (ri_eo fo ft (sj k) z) ≠ ps (ri_eo fo ft (sj k) z) + 1) && ri_fst fo ft sj hd hg (ri_eo fo ft (sj k) z))
def ri_stuck (fo ft ct ej ps rl sj : Nat → Nat) (hd : Nat → Bool) (hg : Nat → Nat) (r : Nat) : Bool := ri_ba (fun i => ri_ba (ri_sk fo ft ct ej ps sj hd hg (5 * r + i)) 2) (rl r)
theorem ry_skI {post J4 : Int32 → Prop} {r k : Nat} (hk : k < 80) (HJ : ri_J J fo ft ct ej) (HG : ∀ t, hg t ≤ 20) (SJ : ∀ i, sj i < 12) (PS : ∀ a, ps a ≤ 1) (h0 : ri_ba (ri_sk fo ft ct ej ps sj hd hg k) 2 = false → J4 (nI (k + 1))) (h1 : ri_ba (ri_sk fo ft ct ej ps sj hd hg k) 2 = true → post 1) : ∃ n, wY_isStuck_20 post J4 (nI r) (nI k) (nI J) (nI R) (ri_n fo) (ri_n ft) (ri_b sg) (ri_n ps) (ri_n rs) (ri_n rl) (ri_n sj) (ri_n se) (ri_b st) (ri_n wt) (ri_b hd) (ri_x lk) (ri_y hg) (ri_y un) (ri_n dn) rv mt nx n 0 := by
  refine ri_sc (fun n z => wY_isStuck_20 post J4 (nI r) (nI k) (nI J) (nI R) (ri_n fo) (ri_n ft) (ri_b sg) (ri_n ps) (ri_n rs) (ri_n rl) (ri_n sj) (ri_n se) (ri_b st) (ri_n wt) (ri_b hd) (ri_x lk) (ri_y hg) (ri_y un) (ri_n dn) rv mt nx n (nI z)) (J4 (nI (k + 1))) (post 1) _ 2 ?_ ?_ ?_ h0 h1
  · intro n p
    simp only [wY_isStuck_20]
    simp (disch := omega) only [nI_clamp, ri_n_ap, ri_b_ap, ri_x_ap, ri_y_ap, ri_in, ri_B0, ri_B1, ri_nm2, ri_nm1, ri_cx_z, ri_cx_n, ri_cy_n, ri_cy_g, ri_cx_e, ri_cy_e, nI_1, nI_add, ri_mul5, ri_mul5', ri_mul2, ri_mul2', ri_add5, ri_div2, ri_two, ri_01, ri_10, nI_eq, nI_leI, nI_ltI, forall_eq, not_false_eq_true, true_and, and_true, not_true_eq_false, false_implies, implies_true, true_implies, ri_le0, ri_ge0, ri_lt0, ri_gt0, ri_eq0, ri_le1, ri_ge1, ri_lt1, ri_gt1, ri_eq1, ri_le2, ri_ge2, ri_lt2, ri_gt2, ri_eq2, ri_le3, ri_ge3, ri_lt3, ri_gt3, ri_eq3, ri_le4, ri_ge4, ri_lt4, ri_gt4, ri_eq4, ri_le5, ri_ge5, ri_lt5, ri_gt5, ri_eq5, ri_le10, ri_ge10, ri_lt10, ri_gt10, ri_eq10, ri_le12, ri_ge12, ri_lt12, ri_gt12, ri_eq12, ri_le16, ri_ge16, ri_lt16, ri_gt16, ri_eq16, ri_le20, ri_ge20, ri_lt20, ri_gt20, ri_eq20, ri_le32, ri_ge32, ri_lt32, ri_gt32, ri_eq32, ri_le80, ri_ge80, ri_lt80, ri_gt80, ri_eq80]
    grind
  · intro n z hz hf p
    simp only [ri_sk, Bool.and_eq_true, decide_eq_true_eq] at hf
    have := SJ k
    have := PS (ri_eo fo ft (sj k) z)
    have := ri_nd_le (ct := ct) (ej := ej) (j := sj k) (a := ri_eo fo ft (sj k) z)
    have := ri_eo_lt (j := sj k) (z := z) HJ.2.1 HJ.2.2.1
    simp only [wY_isStuck_20]
    simp (disch := omega) only [nI_clamp, ri_n_ap, ri_b_ap, ri_x_ap, ri_y_ap, ri_in, ri_B0, ri_B1, ri_nm2, ri_nm1, ri_cx_z, ri_cx_n, ri_cy_n, ri_cy_g, ri_cx_e, ri_cy_e, nI_1, nI_add, ri_mul5, ri_mul5', ri_mul2, ri_mul2', ri_add5, ri_div2, ri_two, ri_01, ri_10, nI_eq, nI_leI, nI_ltI, forall_eq, not_false_eq_true, true_and, and_true, not_true_eq_false, false_implies, implies_true, true_implies, ri_le0, ri_ge0, ri_lt0, ri_gt0, ri_eq0, ri_le1, ri_ge1, ri_lt1, ri_gt1, ri_eq1, ri_le2, ri_ge2, ri_lt2, ri_gt2, ri_eq2, ri_le3, ri_ge3, ri_lt3, ri_gt3, ri_eq3, ri_le4, ri_ge4, ri_lt4, ri_gt4, ri_eq4, ri_le5, ri_ge5, ri_lt5, ri_gt5, ri_eq5, ri_le10, ri_ge10, ri_lt10, ri_gt10, ri_eq10, ri_le12, ri_ge12, ri_lt12, ri_gt12, ri_eq12, ri_le16, ri_ge16, ri_lt16, ri_gt16, ri_eq16, ri_le20, ri_ge20, ri_lt20, ri_gt20, ri_eq20, ri_le32, ri_ge32, ri_lt32, ri_gt32, ri_eq32, ri_le80, ri_ge80, ri_lt80, ri_gt80, ri_eq80]
    refine br_f (by omega) ⟨by omega, ry_nd (SJ k) (by omega) HJ ⟨by omega, ry_eo (SJ k) (by omega) ?_⟩⟩
    simp (disch := omega) only [nI_clamp, ri_n_ap, ri_b_ap, ri_x_ap, ri_y_ap, ri_in, ri_B0, ri_B1, ri_nm2, ri_nm1, ri_cx_z, ri_cx_n, ri_cy_n, ri_cy_g, ri_cx_e, ri_cy_e, nI_1, nI_add, ri_mul5, ri_mul5', ri_mul2, ri_mul2', ri_add5, ri_div2, ri_two, ri_01, ri_10, nI_eq, nI_leI, nI_ltI, forall_eq, not_false_eq_true, true_and, and_true, not_true_eq_false, false_implies, implies_true, true_implies, ri_le0, ri_ge0, ri_lt0, ri_gt0, ri_eq0, ri_le1, ri_ge1, ri_lt1, ri_gt1, ri_eq1, ri_le2, ri_ge2, ri_lt2, ri_gt2, ri_eq2, ri_le3, ri_ge3, ri_lt3, ri_gt3, ri_eq3, ri_le4, ri_ge4, ri_lt4, ri_gt4, ri_eq4, ri_le5, ri_ge5, ri_lt5, ri_gt5, ri_eq5, ri_le10, ri_ge10, ri_lt10, ri_gt10, ri_eq10, ri_le12, ri_ge12, ri_lt12, ri_gt12, ri_eq12, ri_le16, ri_ge16, ri_lt16, ri_gt16, ri_eq16, ri_le20, ri_ge20, ri_lt20, ri_gt20, ri_eq20, ri_le32, ri_ge32, ri_lt32, ri_gt32, ri_eq32, ri_le80, ri_ge80, ri_lt80, ri_gt80, ri_eq80]
    simp (disch := omega) only [ri_cy_e']
    refine br_f hf.1 ⟨by omega, br_f hf.2.1 (ry_fst (by omega) HG SJ HJ.2.1 HJ.2.2.1 ?_)⟩
    simp (disch := omega) only [nI_clamp, ri_n_ap, ri_b_ap, ri_x_ap, ri_y_ap, ri_in, ri_B0, ri_B1, ri_nm2, ri_nm1, ri_cx_z, ri_cx_n, ri_cy_n, ri_cy_g, ri_cx_e, ri_cy_e, nI_1, nI_add, ri_mul5, ri_mul5', ri_mul2, ri_mul2', ri_add5, ri_div2, ri_two, ri_01, ri_10, nI_eq, nI_leI, nI_ltI, forall_eq, not_false_eq_true, true_and, and_true, not_true_eq_false, false_implies, implies_true, true_implies, ri_le0, ri_ge0, ri_lt0, ri_gt0, ri_eq0, ri_le1, ri_ge1, ri_lt1, ri_gt1, ri_eq1, ri_le2, ri_ge2, ri_lt2, ri_gt2, ri_eq2, ri_le3, ri_ge3, ri_lt3, ri_gt3, ri_eq3, ri_le4, ri_ge4, ri_lt4, ri_gt4, ri_eq4, ri_le5, ri_ge5, ri_lt5, ri_gt5, ri_eq5, ri_le10, ri_ge10, ri_lt10, ri_gt10, ri_eq10, ri_le12, ri_ge12, ri_lt12, ri_gt12, ri_eq12, ri_le16, ri_ge16, ri_lt16, ri_gt16, ri_eq16, ri_le20, ri_ge20, ri_lt20, ri_gt20, ri_eq20, ri_le32, ri_ge32, ri_lt32, ri_gt32, ri_eq32, ri_le80, ri_ge80, ri_lt80, ri_gt80, ri_eq80]
    exact br_f (by rw [hf.2.2]; decide) p
  · intro n z hz hf p
    have := SJ k
    have := PS (ri_eo fo ft (sj k) z)
    have := ri_nd_le (ct := ct) (ej := ej) (j := sj k) (a := ri_eo fo ft (sj k) z)
    have := ri_eo_lt (j := sj k) (z := z) HJ.2.1 HJ.2.2.1
    simp only [wY_isStuck_20]
    simp (disch := omega) only [nI_clamp, ri_n_ap, ri_b_ap, ri_x_ap, ri_y_ap, ri_in, ri_B0, ri_B1, ri_nm2, ri_nm1, ri_cx_z, ri_cx_n, ri_cy_n, ri_cy_g, ri_cx_e, ri_cy_e, nI_1, nI_add, ri_mul5, ri_mul5', ri_mul2, ri_mul2', ri_add5, ri_div2, ri_two, ri_01, ri_10, nI_eq, nI_leI, nI_ltI, forall_eq, not_false_eq_true, true_and, and_true, not_true_eq_false, false_implies, implies_true, true_implies, ri_le0, ri_ge0, ri_lt0, ri_gt0, ri_eq0, ri_le1, ri_ge1, ri_lt1, ri_gt1, ri_eq1, ri_le2, ri_ge2, ri_lt2, ri_gt2, ri_eq2, ri_le3, ri_ge3, ri_lt3, ri_gt3, ri_eq3, ri_le4, ri_ge4, ri_lt4, ri_gt4, ri_eq4, ri_le5, ri_ge5, ri_lt5, ri_gt5, ri_eq5, ri_le10, ri_ge10, ri_lt10, ri_gt10, ri_eq10, ri_le12, ri_ge12, ri_lt12, ri_gt12, ri_eq12, ri_le16, ri_ge16, ri_lt16, ri_gt16, ri_eq16, ri_le20, ri_ge20, ri_lt20, ri_gt20, ri_eq20, ri_le32, ri_ge32, ri_lt32, ri_gt32, ri_eq32, ri_le80, ri_ge80, ri_lt80, ri_gt80, ri_eq80]
    refine br_f (by omega) ⟨by omega, ry_nd (SJ k) (by omega) HJ ⟨by omega, ry_eo (SJ k) (by omega) ?_⟩⟩
    simp (disch := omega) only [nI_clamp, ri_n_ap, ri_b_ap, ri_x_ap, ri_y_ap, ri_in, ri_B0, ri_B1, ri_nm2, ri_nm1, ri_cx_z, ri_cx_n, ri_cy_n, ri_cy_g, ri_cx_e, ri_cy_e, nI_1, nI_add, ri_mul5, ri_mul5', ri_mul2, ri_mul2', ri_add5, ri_div2, ri_two, ri_01, ri_10, nI_eq, nI_leI, nI_ltI, forall_eq, not_false_eq_true, true_and, and_true, not_true_eq_false, false_implies, implies_true, true_implies, ri_le0, ri_ge0, ri_lt0, ri_gt0, ri_eq0, ri_le1, ri_ge1, ri_lt1, ri_gt1, ri_eq1, ri_le2, ri_ge2, ri_lt2, ri_gt2, ri_eq2, ri_le3, ri_ge3, ri_lt3, ri_gt3, ri_eq3, ri_le4, ri_ge4, ri_lt4, ri_gt4, ri_eq4, ri_le5, ri_ge5, ri_lt5, ri_gt5, ri_eq5, ri_le10, ri_ge10, ri_lt10, ri_gt10, ri_eq10, ri_le12, ri_ge12, ri_lt12, ri_gt12, ri_eq12, ri_le16, ri_ge16, ri_lt16, ri_gt16, ri_eq16, ri_le20, ri_ge20, ri_lt20, ri_gt20, ri_eq20, ri_le32, ri_ge32, ri_lt32, ri_gt32, ri_eq32, ri_le80, ri_ge80, ri_lt80, ri_gt80, ri_eq80]
    simp (disch := omega) only [ri_cy_e']
    refine br_c (fun _ => p) (fun y1 => ⟨by omega, br_c (fun _ => p) (fun y2 => ry_fst (by omega) HG SJ HJ.2.1 HJ.2.2.1 ?_)⟩)
    simp (disch := omega) only [nI_clamp, ri_n_ap, ri_b_ap, ri_x_ap, ri_y_ap, ri_in, ri_B0, ri_B1, ri_nm2, ri_nm1, ri_cx_z, ri_cx_n, ri_cy_n, ri_cy_g, ri_cx_e, ri_cy_e, nI_1, nI_add, ri_mul5, ri_mul5', ri_mul2, ri_mul2', ri_add5, ri_div2, ri_two, ri_01, ri_10, nI_eq, nI_leI, nI_ltI, forall_eq, not_false_eq_true, true_and, and_true, not_true_eq_false, false_implies, implies_true, true_implies, ri_le0, ri_ge0, ri_lt0, ri_gt0, ri_eq0, ri_le1, ri_ge1, ri_lt1, ri_gt1, ri_eq1, ri_le2, ri_ge2, ri_lt2, ri_gt2, ri_eq2, ri_le3, ri_ge3, ri_lt3, ri_gt3, ri_eq3, ri_le4, ri_ge4, ri_lt4, ri_gt4, ri_eq4, ri_le5, ri_ge5, ri_lt5, ri_gt5, ri_eq5, ri_le10, ri_ge10, ri_lt10, ri_gt10, ri_eq10, ri_le12, ri_ge12, ri_lt12, ri_gt12, ri_eq12, ri_le16, ri_ge16, ri_lt16, ri_gt16, ri_eq16, ri_le20, ri_ge20, ri_lt20, ri_gt20, ri_eq20, ri_le32, ri_ge32, ri_lt32, ri_gt32, ri_eq32, ri_le80, ri_ge80, ri_lt80, ri_gt80, ri_eq80]
    refine br_c (fun _ => p) (fun y3 => ?_)
    rw [Bool.not_eq_false] at y3
    simp [ri_sk, y1, y2, y3] at hf
theorem ry_stuck {post : Int32 → Prop} {r : Nat} (hr : r < 16) (HJ : ri_J J fo ft ct ej) (HG : ∀ t, hg t ≤ 20) (RL : ∀ r, rl r ≤ 5) (SJ : ∀ i, sj i < 12) (PS : ∀ a, ps a ≤ 1) (h : post (ri_B (ri_stuck fo ft ct ej ps rl sj hd hg r))) : wpY_isStuck post (sY J R fo ft sg ps rs rl sj se st wt hd lk hg un dn rv mt nx) (nI r) := by
  have hl := RL r
  simp only [wpY_isStuck]
  refine nm_r (ri_mul5' r) ?_
  refine ri_scB (fun n i => wY_isStuck_4 post (nI r) (nI J) (nI R) (ri_n fo) (ri_n ft) (ri_b sg) (ri_n ps) (ri_n rs) (ri_n rl) (ri_n sj) (ri_n se) (ri_b st) (ri_n wt) (ri_b hd) (ri_x lk) (ri_y hg) (ri_y un) (ri_n dn) rv mt nx n (nI (5 * r + i))) post _ (rl r) h ?_ ?_ ?_
  · intro k p
    simp only [wY_isStuck_4]
    simp (disch := omega) only [nI_clamp, ri_n_ap, ri_b_ap, ri_x_ap, ri_y_ap, ri_in, ri_B0, ri_B1, ri_nm2, ri_nm1, ri_cx_z, ri_cx_n, ri_cy_n, ri_cy_g, ri_cx_e, ri_cy_e, nI_1, nI_add, ri_mul5, ri_mul5', ri_mul2, ri_mul2', ri_add5, ri_div2, ri_two, ri_01, ri_10, nI_eq, nI_leI, nI_ltI, forall_eq, not_false_eq_true, true_and, and_true, not_true_eq_false, false_implies, implies_true, true_implies, ri_le0, ri_ge0, ri_lt0, ri_gt0, ri_eq0, ri_le1, ri_ge1, ri_lt1, ri_gt1, ri_eq1, ri_le2, ri_ge2, ri_lt2, ri_gt2, ri_eq2, ri_le3, ri_ge3, ri_lt3, ri_gt3, ri_eq3, ri_le4, ri_ge4, ri_lt4, ri_gt4, ri_eq4, ri_le5, ri_ge5, ri_lt5, ri_gt5, ri_eq5, ri_le10, ri_ge10, ri_lt10, ri_gt10, ri_eq10, ri_le12, ri_ge12, ri_lt12, ri_gt12, ri_eq12, ri_le16, ri_ge16, ri_lt16, ri_gt16, ri_eq16, ri_le20, ri_ge20, ri_lt20, ri_gt20, ri_eq20, ri_le32, ri_ge32, ri_lt32, ri_gt32, ri_eq32, ri_le80, ri_ge80, ri_lt80, ri_gt80, ri_eq80]
    grind
  · intro k i hi hf p
    simp only [wY_isStuck_4]
    simp (disch := omega) only [nI_clamp, ri_n_ap, ri_b_ap, ri_x_ap, ri_y_ap, ri_in, ri_B0, ri_B1, ri_nm2, ri_nm1, ri_cx_z, ri_cx_n, ri_cy_n, ri_cy_g, ri_cx_e, ri_cy_e, nI_1, nI_add, ri_mul5, ri_mul5', ri_mul2, ri_mul2', ri_add5, ri_div2, ri_two, ri_01, ri_10, nI_eq, nI_leI, nI_ltI, forall_eq, not_false_eq_true, true_and, and_true, not_true_eq_false, false_implies, implies_true, true_implies, ri_le0, ri_ge0, ri_lt0, ri_gt0, ri_eq0, ri_le1, ri_ge1, ri_lt1, ri_gt1, ri_eq1, ri_le2, ri_ge2, ri_lt2, ri_gt2, ri_eq2, ri_le3, ri_ge3, ri_lt3, ri_gt3, ri_eq3, ri_le4, ri_ge4, ri_lt4, ri_gt4, ri_eq4, ri_le5, ri_ge5, ri_lt5, ri_gt5, ri_eq5, ri_le10, ri_ge10, ri_lt10, ri_gt10, ri_eq10, ri_le12, ri_ge12, ri_lt12, ri_gt12, ri_eq12, ri_le16, ri_ge16, ri_lt16, ri_gt16, ri_eq16, ri_le20, ri_ge20, ri_lt20, ri_gt20, ri_eq20, ri_le32, ri_ge32, ri_lt32, ri_gt32, ri_eq32, ri_le80, ri_ge80, ri_lt80, ri_gt80, ri_eq80]
    exact ⟨by omega, br_f (by omega) (ry_skI (by omega) HJ HG SJ PS (fun e => by rw [hf] at e; exact absurd e (by decide)) (fun _ => p))⟩
  · intro k i hi hf p
    simp only [wY_isStuck_4]
    simp (disch := omega) only [nI_clamp, ri_n_ap, ri_b_ap, ri_x_ap, ri_y_ap, ri_in, ri_B0, ri_B1, ri_nm2, ri_nm1, ri_cx_z, ri_cx_n, ri_cy_n, ri_cy_g, ri_cx_e, ri_cy_e, nI_1, nI_add, ri_mul5, ri_mul5', ri_mul2, ri_mul2', ri_add5, ri_div2, ri_two, ri_01, ri_10, nI_eq, nI_leI, nI_ltI, forall_eq, not_false_eq_true, true_and, and_true, not_true_eq_false, false_implies, implies_true, true_implies, ri_le0, ri_ge0, ri_lt0, ri_gt0, ri_eq0, ri_le1, ri_ge1, ri_lt1, ri_gt1, ri_eq1, ri_le2, ri_ge2, ri_lt2, ri_gt2, ri_eq2, ri_le3, ri_ge3, ri_lt3, ri_gt3, ri_eq3, ri_le4, ri_ge4, ri_lt4, ri_gt4, ri_eq4, ri_le5, ri_ge5, ri_lt5, ri_gt5, ri_eq5, ri_le10, ri_ge10, ri_lt10, ri_gt10, ri_eq10, ri_le12, ri_ge12, ri_lt12, ri_gt12, ri_eq12, ri_le16, ri_ge16, ri_lt16, ri_gt16, ri_eq16, ri_le20, ri_ge20, ri_lt20, ri_gt20, ri_eq20, ri_le32, ri_ge32, ri_lt32, ri_gt32, ri_eq32, ri_le80, ri_ge80, ri_lt80, ri_gt80, ri_eq80]
    exact ⟨by omega, br_f (by omega) (ry_skI (by omega) HJ HG SJ PS (fun _ => p) (fun e => by rw [hf] at e; exact absurd e (by decide)))⟩
theorem ry_blk {post : Int32 → Prop} {r : Nat} (hr : r < R) (hR : R ≤ 16) (HJ : ri_J J fo ft ct ej) (HG : ∀ t, hg t ≤ 20) (LK : ∀ s, lk s ≤ 16) (RL : ∀ r, rl r ≤ 5) (SJ : ∀ i, sj i < 12) (SE : ∀ i, se i < 20) (PS : ∀ a, ps a ≤ 1) (h : post (nI (ri_obs (ri_eocc hg rl se r) (ri_elck lk rl se r) (ri_stuck fo ft ct ej ps rl sj hd hg r) (st r)))) : wpY_blocked post (sY J R fo ft sg ps rs rl sj se st wt hd lk hg un dn rv mt nx) (nI r) := by
  have hl := RL r
  simp only [wpY_blocked]
  refine ry_isR1 hR hr ?_
  simp (disch := omega) only [nI_clamp, ri_n_ap, ri_b_ap, ri_x_ap, ri_y_ap, ri_in, ri_B0, ri_B1, ri_nm2, ri_nm1, ri_cx_z, ri_cx_n, ri_cy_n, ri_cy_g, ri_cx_e, ri_cy_e, nI_1, nI_add, ri_mul5, ri_mul5', ri_mul2, ri_mul2', ri_add5, ri_div2, ri_two, ri_01, ri_10, nI_eq, nI_leI, nI_ltI, forall_eq, not_false_eq_true, true_and, and_true, not_true_eq_false, false_implies, implies_true, true_implies, ri_le0, ri_ge0, ri_lt0, ri_gt0, ri_eq0, ri_le1, ri_ge1, ri_lt1, ri_gt1, ri_eq1, ri_le2, ri_ge2, ri_lt2, ri_gt2, ri_eq2, ri_le3, ri_ge3, ri_lt3, ri_gt3, ri_eq3, ri_le4, ri_ge4, ri_lt4, ri_gt4, ri_eq4, ri_le5, ri_ge5, ri_lt5, ri_gt5, ri_eq5, ri_le10, ri_ge10, ri_lt10, ri_gt10, ri_eq10, ri_le12, ri_ge12, ri_lt12, ri_gt12, ri_eq12, ri_le16, ri_ge16, ri_lt16, ri_gt16, ri_eq16, ri_le20, ri_ge20, ri_lt20, ri_gt20, ri_eq20, ri_le32, ri_ge32, ri_lt32, ri_gt32, ri_eq32, ri_le80, ri_ge80, ri_lt80, ri_gt80, ri_eq80]
  refine ⟨by omega, br_c (fun z => ?_) (fun z => ?_)⟩
  · rw [z] at h
    refine ri_sc (fun n i => wY_blocked_27 post (nI r) (nI J) (nI R) (ri_n fo) (ri_n ft) (ri_b sg) (ri_n ps) (ri_n rs) (ri_n rl) (ri_n sj) (ri_n se) (ri_b st) (ri_n wt) (ri_b hd) (ri_x lk) (ri_y hg) (ri_y un) (ri_n dn) rv mt nx n (ri_B (ri_ba (fun i => decide (lk (se (5 * r + i) / 2) ≠ 0)) i)) (nI (5 * r + i))) (ri_eocc hg rl se r = false) (post 2) (fun i => ri_occ hg (se (5 * r + i) / 2)) (rl r) ?_ ?_ ?_ id (fun e => ?_)
    · intro k p
      rw [p] at h
      simp only [wY_blocked_27]
      simp (disch := omega) only [nI_clamp, ri_n_ap, ri_b_ap, ri_x_ap, ri_y_ap, ri_in, ri_B0, ri_B1, ri_nm2, ri_nm1, ri_cx_z, ri_cx_n, ri_cy_n, ri_cy_g, ri_cx_e, ri_cy_e, nI_1, nI_add, ri_mul5, ri_mul5', ri_mul2, ri_mul2', ri_add5, ri_div2, ri_two, ri_01, ri_10, nI_eq, nI_leI, nI_ltI, forall_eq, not_false_eq_true, true_and, and_true, not_true_eq_false, false_implies, implies_true, true_implies, ri_le0, ri_ge0, ri_lt0, ri_gt0, ri_eq0, ri_le1, ri_ge1, ri_lt1, ri_gt1, ri_eq1, ri_le2, ri_ge2, ri_lt2, ri_gt2, ri_eq2, ri_le3, ri_ge3, ri_lt3, ri_gt3, ri_eq3, ri_le4, ri_ge4, ri_lt4, ri_gt4, ri_eq4, ri_le5, ri_ge5, ri_lt5, ri_gt5, ri_eq5, ri_le10, ri_ge10, ri_lt10, ri_gt10, ri_eq10, ri_le12, ri_ge12, ri_lt12, ri_gt12, ri_eq12, ri_le16, ri_ge16, ri_lt16, ri_gt16, ri_eq16, ri_le20, ri_ge20, ri_lt20, ri_gt20, ri_eq20, ri_le32, ri_ge32, ri_lt32, ri_gt32, ri_eq32, ri_le80, ri_ge80, ri_lt80, ri_gt80, ri_eq80]
      refine ⟨by omega, br_t (Nat.le_refl _) (br_c (fun y => ?_) (fun y => ?_))⟩
      · refine ry_stuck (by omega) HJ HG RL SJ PS ?_
        simp (disch := omega) only [nI_clamp, ri_n_ap, ri_b_ap, ri_x_ap, ri_y_ap, ri_in, ri_B0, ri_B1, ri_nm2, ri_nm1, ri_cx_z, ri_cx_n, ri_cy_n, ri_cy_g, ri_cx_e, ri_cy_e, nI_1, nI_add, ri_mul5, ri_mul5', ri_mul2, ri_mul2', ri_add5, ri_div2, ri_two, ri_01, ri_10, nI_eq, nI_leI, nI_ltI, forall_eq, not_false_eq_true, true_and, and_true, not_true_eq_false, false_implies, implies_true, true_implies, ri_le0, ri_ge0, ri_lt0, ri_gt0, ri_eq0, ri_le1, ri_ge1, ri_lt1, ri_gt1, ri_eq1, ri_le2, ri_ge2, ri_lt2, ri_gt2, ri_eq2, ri_le3, ri_ge3, ri_lt3, ri_gt3, ri_eq3, ri_le4, ri_ge4, ri_lt4, ri_gt4, ri_eq4, ri_le5, ri_ge5, ri_lt5, ri_gt5, ri_eq5, ri_le10, ri_ge10, ri_lt10, ri_gt10, ri_eq10, ri_le12, ri_ge12, ri_lt12, ri_gt12, ri_eq12, ri_le16, ri_ge16, ri_lt16, ri_gt16, ri_eq16, ri_le20, ri_ge20, ri_lt20, ri_gt20, ri_eq20, ri_le32, ri_ge32, ri_lt32, ri_gt32, ri_eq32, ri_le80, ri_ge80, ri_lt80, ri_gt80, ri_eq80]
        rw [show ri_elck lk rl se r = false from y] at h
        refine br_c (fun w => ?_) (fun w => ?_)
        · rw [w] at h; exact h
        · rw [Bool.not_eq_false] at w; rw [w] at h; exact h
      · rw [Bool.not_eq_false] at y
        rw [show ri_elck lk rl se r = true from y] at h
        exact h
    · intro k i hi hf p
      have := SE (5 * r + i)
      simp only [wY_blocked_27]
      simp (disch := omega) only [nI_clamp, ri_n_ap, ri_b_ap, ri_x_ap, ri_y_ap, ri_in, ri_B0, ri_B1, ri_nm2, ri_nm1, ri_cx_z, ri_cx_n, ri_cy_n, ri_cy_g, ri_cx_e, ri_cy_e, nI_1, nI_add, ri_mul5, ri_mul5', ri_mul2, ri_mul2', ri_add5, ri_div2, ri_two, ri_01, ri_10, nI_eq, nI_leI, nI_ltI, forall_eq, not_false_eq_true, true_and, and_true, not_true_eq_false, false_implies, implies_true, true_implies, ri_le0, ri_ge0, ri_lt0, ri_gt0, ri_eq0, ri_le1, ri_ge1, ri_lt1, ri_gt1, ri_eq1, ri_le2, ri_ge2, ri_lt2, ri_gt2, ri_eq2, ri_le3, ri_ge3, ri_lt3, ri_gt3, ri_eq3, ri_le4, ri_ge4, ri_lt4, ri_gt4, ri_eq4, ri_le5, ri_ge5, ri_lt5, ri_gt5, ri_eq5, ri_le10, ri_ge10, ri_lt10, ri_gt10, ri_eq10, ri_le12, ri_ge12, ri_lt12, ri_gt12, ri_eq12, ri_le16, ri_ge16, ri_lt16, ri_gt16, ri_eq16, ri_le20, ri_ge20, ri_lt20, ri_gt20, ri_eq20, ri_le32, ri_ge32, ri_lt32, ri_gt32, ri_eq32, ri_le80, ri_ge80, ri_lt80, ri_gt80, ri_eq80]
      refine ⟨by omega, br_f (by omega) ⟨by omega, ry_occ (by omega) HG ?_⟩⟩
      simp (disch := omega) only [nI_clamp, ri_n_ap, ri_b_ap, ri_x_ap, ri_y_ap, ri_in, ri_B0, ri_B1, ri_nm2, ri_nm1, ri_cx_z, ri_cx_n, ri_cy_n, ri_cy_g, ri_cx_e, ri_cy_e, nI_1, nI_add, ri_mul5, ri_mul5', ri_mul2, ri_mul2', ri_add5, ri_div2, ri_two, ri_01, ri_10, nI_eq, nI_leI, nI_ltI, forall_eq, not_false_eq_true, true_and, and_true, not_true_eq_false, false_implies, implies_true, true_implies, ri_le0, ri_ge0, ri_lt0, ri_gt0, ri_eq0, ri_le1, ri_ge1, ri_lt1, ri_gt1, ri_eq1, ri_le2, ri_ge2, ri_lt2, ri_gt2, ri_eq2, ri_le3, ri_ge3, ri_lt3, ri_gt3, ri_eq3, ri_le4, ri_ge4, ri_lt4, ri_gt4, ri_eq4, ri_le5, ri_ge5, ri_lt5, ri_gt5, ri_eq5, ri_le10, ri_ge10, ri_lt10, ri_gt10, ri_eq10, ri_le12, ri_ge12, ri_lt12, ri_gt12, ri_eq12, ri_le16, ri_ge16, ri_lt16, ri_gt16, ri_eq16, ri_le20, ri_ge20, ri_lt20, ri_gt20, ri_eq20, ri_le32, ri_ge32, ri_lt32, ri_gt32, ri_eq32, ri_le80, ri_ge80, ri_lt80, ri_gt80, ri_eq80]
      exact br_f (by rw [hf]; decide) p
    · intro k i hi hf p
      have := SE (5 * r + i)
      have := LK (se (5 * r + i) / 2)
      simp only [wY_blocked_27]
      simp (disch := omega) only [nI_clamp, ri_n_ap, ri_b_ap, ri_x_ap, ri_y_ap, ri_in, ri_B0, ri_B1, ri_nm2, ri_nm1, ri_cx_z, ri_cx_n, ri_cy_n, ri_cy_g, ri_cx_e, ri_cy_e, nI_1, nI_add, ri_mul5, ri_mul5', ri_mul2, ri_mul2', ri_add5, ri_div2, ri_two, ri_01, ri_10, nI_eq, nI_leI, nI_ltI, forall_eq, not_false_eq_true, true_and, and_true, not_true_eq_false, false_implies, implies_true, true_implies, ri_le0, ri_ge0, ri_lt0, ri_gt0, ri_eq0, ri_le1, ri_ge1, ri_lt1, ri_gt1, ri_eq1, ri_le2, ri_ge2, ri_lt2, ri_gt2, ri_eq2, ri_le3, ri_ge3, ri_lt3, ri_gt3, ri_eq3, ri_le4, ri_ge4, ri_lt4, ri_gt4, ri_eq4, ri_le5, ri_ge5, ri_lt5, ri_gt5, ri_eq5, ri_le10, ri_ge10, ri_lt10, ri_gt10, ri_eq10, ri_le12, ri_ge12, ri_lt12, ri_gt12, ri_eq12, ri_le16, ri_ge16, ri_lt16, ri_gt16, ri_eq16, ri_le20, ri_ge20, ri_lt20, ri_gt20, ri_eq20, ri_le32, ri_ge32, ri_lt32, ri_gt32, ri_eq32, ri_le80, ri_ge80, ri_lt80, ri_gt80, ri_eq80]
      refine ⟨by omega, br_f (by omega) ⟨by omega, ry_occ (by omega) HG ?_⟩⟩
      simp (disch := omega) only [nI_clamp, ri_n_ap, ri_b_ap, ri_x_ap, ri_y_ap, ri_in, ri_B0, ri_B1, ri_nm2, ri_nm1, ri_cx_z, ri_cx_n, ri_cy_n, ri_cy_g, ri_cx_e, ri_cy_e, nI_1, nI_add, ri_mul5, ri_mul5', ri_mul2, ri_mul2', ri_add5, ri_div2, ri_two, ri_01, ri_10, nI_eq, nI_leI, nI_ltI, forall_eq, not_false_eq_true, true_and, and_true, not_true_eq_false, false_implies, implies_true, true_implies, ri_le0, ri_ge0, ri_lt0, ri_gt0, ri_eq0, ri_le1, ri_ge1, ri_lt1, ri_gt1, ri_eq1, ri_le2, ri_ge2, ri_lt2, ri_gt2, ri_eq2, ri_le3, ri_ge3, ri_lt3, ri_gt3, ri_eq3, ri_le4, ri_ge4, ri_lt4, ri_gt4, ri_eq4, ri_le5, ri_ge5, ri_lt5, ri_gt5, ri_eq5, ri_le10, ri_ge10, ri_lt10, ri_gt10, ri_eq10, ri_le12, ri_ge12, ri_lt12, ri_gt12, ri_eq12, ri_le16, ri_ge16, ri_lt16, ri_gt16, ri_eq16, ri_le20, ri_ge20, ri_lt20, ri_gt20, ri_eq20, ri_le32, ri_ge32, ri_lt32, ri_gt32, ri_eq32, ri_le80, ri_ge80, ri_lt80, ri_gt80, ri_eq80]
      refine br_t hf ⟨by omega, by omega, br_c (fun y => ?_) (fun y => ?_)⟩
      · rw [ri_ba] at p
        simp only [y, ne_eq, not_true_eq_false, decide_false, Bool.or_false] at p
        exact p
      · rw [ri_ba] at p
        simp only [y, ne_eq, not_false_eq_true, decide_true, Bool.or_true] at p
        exact p
    · rw [show ri_eocc hg rl se r = true from e] at h
      exact h
  · rw [Bool.not_eq_false] at z; rw [z] at h; exact h
end
