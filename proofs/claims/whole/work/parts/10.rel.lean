section
variable {J R : Nat} {fo ft ct ej ps : Nat → Nat} {sg : Nat → Bool} {rs rl sj se : Nat → Nat} {cb : Nat → Int32} {st : Nat → Bool} {wt : Nat → Nat} {hd : Nat → Bool} {lk hg un dn : Nat → Nat} {rv mt nx : Nat → Int32}
def ri_D (R : Nat) (rl se : Nat → Nat) (st : Nat → Bool) (wt : Nat → Nat) (hd : Nat → Bool) (lk hg un dn : Nat → Nat) : Prop :=
  (∀ t, hg t ≤ 20) ∧ (∀ t, un t ≤ 16) ∧ (∀ s, lk s ≤ 16) ∧ (∀ t, dn t ≤ 5) ∧ (∀ r, wt r ≤ 3) ∧
  (∀ r, wt r ≠ 0 → st r = true) ∧ (∀ r, st r = true → r < R) ∧
  (∀ k, hd k = true → st (k / 5) = true ∧ k % 5 < rl (k / 5)) ∧
  (∀ s, s < 10 → lk s ≠ 0 → st (lk s - 1) = true ∧ ∃ k, k < rl (lk s - 1) ∧ se (5 * (lk s - 1) + k) / 2 = s) ∧
  (∀ t, t < 3 → un t ≠ 0 → hg t ≠ 0 ∧ st (un t - 1) = true ∧ wt (un t - 1) = 0 ∧ 1 ≤ dn t ∧ dn t < rl (un t - 1) ∧ hg t = ri_op (se (5 * (un t - 1) + dn t - 1)) + 1) ∧
  (∀ t t', t < 3 → t' < 3 → un t ≠ 0 → un t = un t' → t = t')
def ri_hdR (hd : Nat → Bool) (r : Nat) : Nat → Bool := fun k => if k / 5 = r then false else hd k
def ri_lkR (lk : Nat → Nat) (r : Nat) : Nat → Nat := fun s => if s < 10 ∧ lk s = r + 1 then 0 else lk s
theorem ri_D_rel {r : Nat} (D : ri_D R rl se st wt hd lk hg un dn) (hu : ∀ t, t < 3 → un t ≠ r + 1) : ri_D R rl se (ri_u st r false) (ri_u wt r 0) (ri_hdR hd r) (ri_lkR lk r) hg un dn := by
  obtain ⟨D1, D2, D3, D4, D5, D6, D7, D8, D9, DA, DB⟩ := D
  refine ⟨D1, D2, ?_, D4, ?_, ?_, ?_, ?_, ?_, ?_, DB⟩
  · intro s; unfold ri_lkR; split
    · omega
    · exact D3 s
  · intro x; unfold ri_u; split
    · omega
    · exact D5 x
  · intro x h
    by_cases z : x = r
    · subst z; rw [ri_us] at h; exact absurd rfl h
    · rw [ri_un z] at h ⊢; exact D6 x h
  · intro x h
    by_cases z : x = r
    · subst z; rw [ri_us] at h; exact absurd h (by decide)
    · rw [ri_un z] at h; exact D7 x h
  · intro k h
    unfold ri_hdR at h
    by_cases z : k / 5 = r
    · rw [if_pos z] at h; exact absurd h (by decide)
    · rw [if_neg z] at h; rw [ri_un z]; exact D8 k h
  · intro s hs h
    unfold ri_lkR at h ⊢
    by_cases z : lk s = r + 1
    · rw [if_pos ⟨hs, z⟩] at h; exact absurd rfl h
    · rw [if_neg (fun w => z w.2)] at h ⊢
      rw [ri_un (by omega)]; exact D9 s hs h
  · intro t ht h
    have := hu t ht
    rw [ri_un (by omega), ri_un (by omega)]; exact DA t ht h
theorem rx_rstep {post : SX → Prop} {r i : Nat} (hr : r < 16) (hi : i < 5) (SE : ∀ i, se i < 20) (LK : ∀ s, lk s ≤ 16) (h1 : lk (se (5 * r + i) / 2) = r + 1 → post (sX J R fo ft ct ej ps sg rs rl sj se cb st wt (ri_u hd (5 * r + i) false) (ri_u lk (se (5 * r + i) / 2) 0) hg un dn)) (h0 : lk (se (5 * r + i) / 2) ≠ r + 1 → post (sX J R fo ft ct ej ps sg rs rl sj se cb st wt (ri_u hd (5 * r + i) false) lk hg un dn)) : wpX_releaseStep post (sX J R fo ft ct ej ps sg rs rl sj se cb st wt hd lk hg un dn) (nI r) (nI i) := by
  have h2 := SE (5 * r + i)
  have h3 := LK (se (5 * r + i) / 2)
  simp only [wpX_releaseStep]
  simp (disch := omega) only [ri_mul5, nI_add]
  refine nm_e ?_
  simp (disch := omega) only [nI_clamp, ri_in, ri_n_ap, ri_two, not_false_eq_true, true_and, ri_div2, ri_nar0, ri_upd_b]
  refine ⟨by omega, nm_e ⟨by omega, nm_e ?_⟩⟩
  simp (disch := omega) only [nI_clamp, ri_in, ri_x_ap, ri_cx_e, ri_upd_x0]
  exact ⟨by omega, br_c (fun z => ⟨by omega, nm_e (h1 z)⟩) (fun z => h0 z)⟩
theorem rx_rel {post : SX → Prop} {r : Nat} (hr : r < 16) (RL : ∀ r, rl r ≤ 5) (SE : ∀ i, se i < 20) (LK : ∀ s, lk s ≤ 16) (HH : ∀ k, hd k = true → k % 5 < rl (k / 5)) (HL : ∀ s, s < 10 → lk s = r + 1 → ∃ k, k < rl r ∧ se (5 * r + k) / 2 = s) (h : post (sX J R fo ft ct ej ps sg rs rl sj se cb (ri_u st r false) wt (ri_hdR hd r) (ri_lkR lk r) hg un dn)) : wpX_releaseRoute post (sX J R fo ft ct ej ps sg rs rl sj se cb st wt hd lk hg un dn) (nI r) := by
  have hl := RL r
  simp only [wpX_releaseRoute]
  simp (disch := omega) only [nI_clamp, ri_in, ri_nar0, ri_upd_b]
  refine ⟨hr, nm_e ?_⟩
  have W := ri_fo (fun n i => wX_releaseRoute_9 post (nI r) n (nI i) (nI J) (nI R) (ri_n fo) (ri_n ft) (ri_n ct) (ri_n ej) (ri_n ps) (ri_b sg) (ri_n rs) (ri_n rl) (ri_n sj) (ri_n se) cb (ri_b (ri_u st r false)) (ri_n wt) (ri_b (fun k => if 5 * r ≤ k ∧ k < 5 * r + i then false else hd k)) (ri_x (fun s => if ri_ba (fun k => decide (se (5 * r + k) / 2 = s)) i = true ∧ lk s = r + 1 then 0 else lk s)) (ri_x hg) (ri_x un) (ri_n dn)) (rl r) ?_ ?_
  · have e1 : (fun k => if 5 * r ≤ k ∧ k < 5 * r + 0 then false else hd k) = hd := by
      funext k; exact if_neg (by omega)
    have e2 : (fun s => if ri_ba (fun k => decide (se (5 * r + k) / 2 = s)) 0 = true ∧ lk s = r + 1 then 0 else lk s) = lk := by
      funext s; exact if_neg (fun w => absurd w.1 (by simp [ri_ba]))
    rw [e1, e2] at W
    exact W
  · intro n
    have e1 : (fun k => if 5 * r ≤ k ∧ k < 5 * r + rl r then false else hd k) = ri_hdR hd r := by
      funext k
      unfold ri_hdR
      by_cases z : 5 * r ≤ k ∧ k < 5 * r + rl r
      · rw [if_pos z, if_pos (by omega)]
      · rw [if_neg z]
        by_cases y : k / 5 = r
        · rw [if_pos y]
          cases w : hd k with
          | false => rfl
          | true => have := HH k w; rw [y] at this; omega
        · rw [if_neg y]
    have e2 : (fun s => if ri_ba (fun k => decide (se (5 * r + k) / 2 = s)) (rl r) = true ∧ lk s = r + 1 then 0 else lk s) = ri_lkR lk r := by
      funext s
      unfold ri_lkR
      by_cases y : lk s = r + 1
      · by_cases z : s < 10
        · obtain ⟨k, k1, k2⟩ := HL s z y
          rw [if_pos ⟨ri_ba_t.mpr ⟨k, k1, by simp [k2]⟩, y⟩, if_pos ⟨z, y⟩]
        · rw [if_neg, if_neg (fun w => z w.1)]
          rintro ⟨w, _⟩
          obtain ⟨k, k1, k2⟩ := ri_ba_t.mp w
          have := SE (5 * r + k)
          simp only [decide_eq_true_eq] at k2
          omega
      · rw [if_neg (fun w => y w.2), if_neg (fun w => y w.2)]
    rw [e1, e2]
    simp only [wX_releaseRoute_9]
    simp (disch := omega) only [nI_clamp, ri_in, ri_n_ap, nI_leI]
    exact ⟨hr, br_t (Nat.le_refl _) h⟩
  · intro n i hi p
    simp only [wX_releaseRoute_9]
    simp (disch := omega) only [nI_clamp, ri_in, ri_n_ap, nI_leI]
    have eh : ri_u (fun k => if 5 * r ≤ k ∧ k < 5 * r + i then false else hd k) (5 * r + i) false = (fun k => if 5 * r ≤ k ∧ k < 5 * r + (i + 1) then false else hd k) := by
      funext k
      unfold ri_u
      by_cases z : k = 5 * r + i
      · rw [if_pos z, if_pos (by omega)]
      · rw [if_neg z]
        dsimp only
        by_cases y : 5 * r ≤ k ∧ k < 5 * r + i
        · rw [if_pos y, if_pos (by omega)]
        · rw [if_neg y, if_neg (by omega)]
    refine ⟨hr, br_f (by omega) (rx_rstep hr (by omega) SE ?_ (fun z => ?_) (fun z => ?_))⟩
    · intro s; split
      · omega
      · exact LK s
    · rw [eh]
      have el : ri_u (fun s => if ri_ba (fun k => decide (se (5 * r + k) / 2 = s)) i = true ∧ lk s = r + 1 then 0 else lk s) (se (5 * r + i) / 2) 0 = (fun s => if ri_ba (fun k => decide (se (5 * r + k) / 2 = s)) (i + 1) = true ∧ lk s = r + 1 then 0 else lk s) := by
        funext s
        unfold ri_u
        by_cases y : s = se (5 * r + i) / 2
        · subst y
          rw [if_pos rfl]
          have y2 : lk (se (5 * r + i) / 2) = r + 1 := by
            split at z
            · omega
            · exact z
          rw [if_pos ⟨by simp [ri_ba], y2⟩]
        · rw [if_neg y]
          simp [ri_ba, Ne.symm y]
      rw [el]
      exact nm_r (nI_1 _) p
    · rw [eh]
      have el : (fun s => if ri_ba (fun k => decide (se (5 * r + k) / 2 = s)) i = true ∧ lk s = r + 1 then 0 else lk s) = (fun s => if ri_ba (fun k => decide (se (5 * r + k) / 2 = s)) (i + 1) = true ∧ lk s = r + 1 then 0 else lk s) := by
        funext s
        by_cases y : s = se (5 * r + i) / 2
        · subst y
          by_cases y2 : lk (se (5 * r + i) / 2) = r + 1
          · by_cases y3 : ri_ba (fun k => decide (se (5 * r + k) / 2 = se (5 * r + i) / 2)) i = true
            · rw [if_pos ⟨y3, y2⟩, if_pos ⟨by simp [ri_ba], y2⟩]
            · rw [if_neg (fun w => y3 w.1)] at z; exact absurd y2 z
          · rw [if_neg (fun w => y2 w.2), if_neg (fun w => y2 w.2)]
        · simp [ri_ba, Ne.symm y]
      rw [el] 
      exact nm_r (nI_1 _) p
theorem ry_rel {post : SY → Prop} {r : Nat} (hr : r < 16) (LK : ∀ s, lk s ≤ 16) (h : post (sY J R fo ft sg ps rs rl sj se (ri_u st r false) (ri_u wt r 0) (ri_hdR hd r) (ri_lkR lk r) hg un dn rv mt nx)) : wpY_release post (sY J R fo ft sg ps rs rl sj se st wt hd lk hg un dn rv mt nx) (nI r) := by
  simp only [wpY_release]
  simp (disch := omega) only [nI_clamp, ri_in, ri_nar0, ri_upd_b, ri_upd_n0, ri_mul5']
  refine ⟨hr, nm_e ⟨hr, nm_e (nm_e ?_)⟩⟩
  have W := ri_fo (fun n i => wY_release_18 post (nI r) (nI J) (nI R) n (nI (5 * r + i)) (ri_n fo) (ri_n ft) (ri_b sg) (ri_n ps) (ri_n rs) (ri_n rl) (ri_n sj) (ri_n se) (ri_b (ri_u st r false)) (ri_n (ri_u wt r 0)) (ri_b (fun k => if 5 * r ≤ k ∧ k < 5 * r + i then false else hd k)) (ri_x lk) (ri_y hg) (ri_y un) (ri_n dn) rv mt nx) 5 ?_ ?_
  · have e1 : (fun k => if 5 * r ≤ k ∧ k < 5 * r + 0 then false else hd k) = hd := by
      funext k; exact if_neg (by omega)
    rw [e1] at W
    exact W
  · intro n
    have e1 : (fun k => if 5 * r ≤ k ∧ k < 5 * r + 5 then false else hd k) = ri_hdR hd r := by
      funext k
      unfold ri_hdR
      by_cases z : k / 5 = r
      · rw [if_pos z, if_pos (by omega)]
      · rw [if_neg z, if_neg (by omega)]
    rw [e1]
    simp only [wY_release_18]
    simp (disch := omega) only [ri_mul5', ri_add5, nI_leI]
    refine br_t (Nat.le_refl _) ?_
    have V := ri_fo (fun n i => wY_release_42 post (nI r) (nI J) (nI R) n (nI i) (ri_n fo) (ri_n ft) (ri_b sg) (ri_n ps) (ri_n rs) (ri_n rl) (ri_n sj) (ri_n se) (ri_b (ri_u st r false)) (ri_n (ri_u wt r 0)) (ri_b (ri_hdR hd r)) (ri_x (fun s => if s < i ∧ lk s = r + 1 then 0 else lk s)) (ri_y hg) (ri_y un) (ri_n dn) rv mt nx) 10 ?_ ?_
    · have e2 : (fun s => if s < 0 ∧ lk s = r + 1 then 0 else lk s) = lk := by
        funext s; exact if_neg (by omega)
      rw [e2] at V
      exact V
    · intro n
      exact br_t (nI_le (a := 10) (b := 10) (by omega) (by omega)) h
    · intro n i hi p
      have hlk := LK i
      have e3 : (fun s => if s < i ∧ lk s = r + 1 then 0 else lk s) i = lk i := if_neg (by omega)
      simp only [wY_release_42]
      simp (disch := omega) only [nI_clamp, ri_in, ri_x_ap, ri_le10, e3, ri_cx_e, ri_upd_x0, nI_1]
      refine br_f (by omega) ⟨hi, br_c (fun z => ⟨hi, nm_e (nm_e ?_)⟩) (fun z => nm_e ?_)⟩
      · have e4 : ri_u (fun s => if s < i ∧ lk s = r + 1 then 0 else lk s) i 0 = (fun s => if s < i + 1 ∧ lk s = r + 1 then 0 else lk s) := by
          funext s
          unfold ri_u
          by_cases y : s = i
          · rw [if_pos y, if_pos ⟨by omega, by rw [y]; exact z⟩]
          · rw [if_neg y]
            by_cases w : s < i
            · simp [w, show s < i + 1 by omega]
            · simp [w, show ¬ s < i + 1 by omega]
        rw [e4]; exact p
      · have e4 : (fun s => if s < i ∧ lk s = r + 1 then 0 else lk s) = (fun s => if s < i + 1 ∧ lk s = r + 1 then 0 else lk s) := by
          funext s
          by_cases y : s = i
          · subst y; rw [if_neg (by omega), if_neg (fun w => z w.2)]
          · by_cases w : s < i
            · simp [w, show s < i + 1 by omega]
            · simp [w, show ¬ s < i + 1 by omega]
        rw [e4]; exact p
  · intro n i hi p
    simp only [wY_release_18]
    simp (disch := omega) only [ri_mul5', ri_add5, nI_leI, nI_clamp, ri_in, ri_nar0, ri_upd_b, nI_1]
    refine br_f (by omega) ⟨by omega, nm_e (nm_e ?_)⟩
    have eh : ri_u (fun k => if 5 * r ≤ k ∧ k < 5 * r + i then false else hd k) (5 * r + i) false = (fun k => if 5 * r ≤ k ∧ k < 5 * r + (i + 1) then false else hd k) := by
      funext k
      unfold ri_u
      by_cases z : k = 5 * r + i
      · rw [if_pos z, if_pos (by omega)]
      · rw [if_neg z]
        dsimp only
        by_cases y : 5 * r ≤ k ∧ k < 5 * r + i
        · rw [if_pos y, if_pos (by omega)]
        · rw [if_neg y, if_neg (by omega)]
    rw [eh]; exact p
theorem ri_HL {r : Nat} (D : ri_D R rl se st wt hd lk hg un dn) : ∀ s, s < 10 → lk s = r + 1 → ∃ k, k < rl r ∧ se (5 * r + k) / 2 = s := by
  intro s hs h
  have := (D.2.2.2.2.2.2.2.2.1 s hs (by omega)).2
  rw [h] at this
  exact this
theorem ri_HH (D : ri_D R rl se st wt hd lk hg un dn) : ∀ k, hd k = true → k % 5 < rl (k / 5) := fun k h => (D.2.2.2.2.2.2.2.1 k h).2
/-- release on both sides, from states that hold the invariant -/
theorem rx_relD {post : SX → Prop} {r : Nat} (hr : r < 16) (HR : ri_R J R rs rl sj se) (D : ri_D R rl se st wt hd lk hg un dn) (h : post (sX J R fo ft ct ej ps sg rs rl sj se cb (ri_u st r false) wt (ri_hdR hd r) (ri_lkR lk r) hg un dn)) : wpX_releaseRoute post (sX J R fo ft ct ej ps sg rs rl sj se cb st wt hd lk hg un dn) (nI r) :=
  rx_rel hr HR.2.2.1 HR.2.2.2.2.1 D.2.2.1 (ri_HH D) (ri_HL D) h
theorem ri_usedt {r : Nat} (D : ri_D R rl se st wt hd lk hg un dn) : ri_used hg un r = ri_trav un r := by
  refine ri_ba_c (fun t ht => ?_)
  by_cases z : un t = r + 1
  · have := (D.2.2.2.2.2.2.2.2.2.1 t ht (by omega)).1
    simp [z, this]
  · simp [z]
end
