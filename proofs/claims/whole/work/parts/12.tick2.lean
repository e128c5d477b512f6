section
variable {J R : Nat} {fo ft ct ej ps : Nat → Nat} {sg : Nat → Bool} {rs rl sj se : Nat → Nat} {cb : Nat → Int32} {st : Nat → Bool} {wt : Nat → Nat} {hd : Nat → Bool} {lk hg un dn : Nat → Nat} {rv mt nx : Nat → Int32}
theorem ri_mv {t : Nat} (HR : ri_R J R rs rl sj se) (D : ri_D R rl se st wt hd lk hg un dn) (ht : t < 3) :
    ∃ (mv : Bool) (st' : Nat → Bool) (wt' : Nat → Nat) (hd' : Nat → Bool) (lk' hg' un' dn' : Nat → Nat), ri_D R rl se st' wt' hd' lk' hg' un' dn' ∧
    (∀ (post : Int32 → SX → Prop) (n p : Nat), wX_moveTrains_4 post n (nI (p + mv.toNat)) (nI (t + 1)) (nI J) (nI R) (ri_n fo) (ri_n ft) (ri_n ct) (ri_n ej) (ri_n ps) (ri_b sg) (ri_n rs) (ri_n rl) (ri_n sj) (ri_n se) cb (ri_b st') (ri_n wt') (ri_b hd') (ri_x lk') (ri_x hg') (ri_x un') (ri_n dn') → wX_moveTrains_4 post (n + 1) (nI p) (nI t) (nI J) (nI R) (ri_n fo) (ri_n ft) (ri_n ct) (ri_n ej) (ri_n ps) (ri_b sg) (ri_n rs) (ri_n rl) (ri_n sj) (ri_n se) cb (ri_b st) (ri_n wt) (ri_b hd) (ri_x lk) (ri_x hg) (ri_x un) (ri_n dn)) ∧
    (∀ post : Int32 → SY → Prop, post (ri_B mv) (sY J R fo ft sg ps rs rl sj se st' wt' hd' lk' hg' un' dn' rv mt nx) → wpY_move post (sY J R fo ft sg ps rs rl sj se st wt hd lk hg un dn rv mt nx) (nI t)) := by
  have HR' := HR
  have D' := D
  obtain ⟨hR, RS, RL, SJ, SE, R1, R2⟩ := HR'
  obtain ⟨D1, D2, D3, D4, D5, D6, D7, D8, D9, DA, DB⟩ := D'
  have hgt := D1 t
  have hut := D2 t
  have hdt := D4 t
  by_cases zh : hg t = 0
  · have zu : un t = 0 := by
      by_cases y : un t = 0
      · exact y
      · exact absurd zh (DA t ht y).1
    refine ⟨false, st, wt, hd, lk, hg, un, dn, D, ?_, ?_⟩
    · intro post n p h
      simp only [wX_moveTrains_4, wX_moveTrains_54]
      simp (disch := omega) only [nI_clamp, ri_in, ri_x_ap, ri_cx_z, ri_le3, nI_1]
      exact br_f (by omega) ⟨ht, br_t zh ⟨ht, br_t zu (nm_e h)⟩⟩
    · intro post h
      simp only [wpY_move]
      simp (disch := omega) only [nI_clamp, ri_in, ri_y_ap, ri_cy_g]
      exact ⟨ht, br_f (by omega) h⟩
  · by_cases zu : un t = 0
    · -- a new route, or none
      have ev : ri_ff (fun r => decide (rs r = hg t - 1) && (st r && (decide (wt r = 0) && !ri_used hg un r))) R = ri_ff (fun r => decide (rs r = hg t - 1) && (st r && (decide (wt r = 0) && !ri_trav un r))) R :=
        ri_ff_c (fun r _ => by rw [ri_usedt D])
      have hvi := ri_ff_i (f := fun r => decide (rs r = hg t - 1) && (st r && (decide (wt r = 0) && !ri_trav un r))) R
      generalize hv : ri_ff (fun r => decide (rs r = hg t - 1) && (st r && (decide (wt r = 0) && !ri_trav un r))) R = v at ev hvi
      have hv16 : v ≤ 16 := by
        by_cases y : v = 0
        · omega
        · have := (hvi y).1; omega
      have openX : ∀ (post : Int32 → SX → Prop) (n p : Nat), ((v = 0 → wX_moveTrains_4 post n (nI p) (nI (t + 1)) (nI J) (nI R) (ri_n fo) (ri_n ft) (ri_n ct) (ri_n ej) (ri_n ps) (ri_b sg) (ri_n rs) (ri_n rl) (ri_n sj) (ri_n se) cb (ri_b st) (ri_n wt) (ri_b hd) (ri_x lk) (ri_x hg) (ri_x (ri_u un t v)) (ri_n (ri_u dn t 0))) ∧ (v ≠ 0 → wX_moveTrain_29 (fun u => match u with | (x1, x2, x3, x4, x5, x6, x7, x8, x9, y0, y1, y2, y3, y4, y5, y6, y7, y8, y9, z0) => wX_moveTrains_4 post n (nI (p + 1)) (nI (t + 1)) x1 x2 x3 x4 x5 x6 x7 x8 x9 y0 y1 y2 y3 y4 y5 y6 y7 y8 y9 z0) (nI t) (nI (v - 1)) (nI J) (nI R) (ri_n fo) (ri_n ft) (ri_n ct) (ri_n ej) (ri_n ps) (ri_b sg) (ri_n rs) (ri_n rl) (ri_n sj) (ri_n se) cb (ri_b st) (ri_n wt) (ri_b hd) (ri_x lk) (ri_x hg) (ri_x (ri_u un t v)) (ri_n (ri_u dn t 0)))) → wX_moveTrains_4 post (n + 1) (nI p) (nI t) (nI J) (nI R) (ri_n fo) (ri_n ft) (ri_n ct) (ri_n ej) (ri_n ps) (ri_b sg) (ri_n rs) (ri_n rl) (ri_n sj) (ri_n se) cb (ri_b st) (ri_n wt) (ri_b hd) (ri_x lk) (ri_x hg) (ri_x un) (ri_n dn) := by
        intro post n p H
        simp only [wX_moveTrains_4, wX_moveTrains_54]
        simp (disch := omega) only [nI_clamp, ri_in, ri_x_ap, ri_cx_z, ri_le3, nI_1, ri_cx_p zh]
        simp (disch := omega) only [ri_nm2, false_implies, not_false_eq_true, true_implies, true_and]
        refine br_f (by omega) ⟨ht, ht, br_t zu ⟨ht, rx_open (by omega) hR RS D5 D2 ?_⟩⟩
        rw [hv]
        simp (disch := omega) only [ri_upd_x, ri_upd_n0, ri_in]
        refine ⟨ht, nm_e ⟨ht, nm_e ⟨ht, ?_⟩⟩⟩
        simp (disch := omega) only [ri_x_ap, ri_us, ri_cx_z]
        refine br_c (fun y => nm_e (H.1 y)) (fun y => ?_)
        have H2 := H.2 y
        simp only [wpX_moveTrain]
        simp (disch := omega) only [nI_clamp, ri_in, ri_x_ap, ri_us, ri_cx_p y]
        refine ⟨ht, nm_e ⟨ht, ?_⟩⟩
        simp (disch := omega) only [ri_n_ap, ri_us]
        refine br_t (by decide) ?_
        refine Eq.mp ?_ H2
        congr 1
        funext u
        obtain ⟨x1, x2, x3, x4, x5, x6, x7, x8, x9, y0, y1, y2, y3, y4, y5, y6, y7, y8, y9, z0⟩ := u
        simp only [forall_eq]
      have openY : ∀ (post : Int32 → SY → Prop), ((v = 0 → post 0 (sY J R fo ft sg ps rs rl sj se st wt hd lk hg (ri_u un t v) (ri_u dn t 0) rv mt nx)) ∧ (v ≠ 0 → wY_move_105 post (nI t) (nI (v - 1)) (nI 0) (nI J) (nI R) (ri_n fo) (ri_n ft) (ri_b sg) (ri_n ps) (ri_n rs) (ri_n rl) (ri_n sj) (ri_n se) (ri_b st) (ri_n wt) (ri_b hd) (ri_x lk) (ri_y hg) (ri_y (ri_u un t v)) (ri_n (ri_u dn t 0)) rv mt nx)) → wpY_move post (sY J R fo ft sg ps rs rl sj se st wt hd lk hg un dn rv mt nx) (nI t) := by
        intro post H
        simp only [wpY_move]
        simp (disch := omega) only [nI_clamp, ri_in, ri_y_ap, ri_cy_g]
        refine ⟨ht, br_t zh ⟨ht, br_f (by omega) (ry_rfor ht zh hR D1 RS D5 D2 ?_)⟩⟩
        rw [ev]
        simp (disch := omega) only [ri_upd_y, ri_upd_n0, ri_in]
        refine ⟨ht, nm_e ⟨ht, nm_e ?_⟩⟩
        simp only [wY_move_38]
        simp (disch := omega) only [nI_clamp, ri_in, ri_y_ap, ri_us, ri_cy_g, ri_cy_p zh, ri_div2]
        refine ⟨ht, nm_e ?_⟩
        simp (disch := omega) only [ri_cy_g]
        refine br_c (fun y => ⟨ht, by decide, nm_e ⟨ht, nm_e ?_⟩⟩) (fun y => H.1 (by omega))
        have hs9 := D3 ((hg t - 1) / 2)
        obtain ⟨v1, v2⟩ := hvi y
        simp only [Bool.and_eq_true, decide_eq_true_eq, Bool.not_eq_true'] at v2
        simp (disch := omega) only [nI_clamp, ri_in, ri_x_ap, ri_n_ap, ri_us, ri_cy_p y, ri_cx_e]
        refine ⟨by omega, br_f ?_ ?_⟩
        · intro w
          obtain ⟨k, k1, k2⟩ := ri_HL D _ (by omega) w
          have := (R2 (v - 1) v1 k k1).2
          rw [v2.1] at this
          exact this k2
        · simp only [wY_move_86]
          exact br_t (by decide) (H.2 y)
      by_cases zv : v = 0
      · refine ⟨false, st, wt, hd, lk, hg, ri_u un t v, ri_u dn t 0, ?_, ?_, ?_⟩
        · have := ri_D_off (x := hg t) (y := 0) D ht (by omega) (by omega)
          rw [ri_ui rfl] at this
          rw [zv]; exact this
        · intro post n p h
          exact openX post n p ⟨fun _ => h, fun y => absurd zv y⟩
        · intro post h
          exact openY post ⟨fun _ => h, fun y => absurd zv y⟩
      · obtain ⟨v1, v2⟩ := hvi zv
        simp only [Bool.and_eq_true, decide_eq_true_eq, Bool.not_eq_true'] at v2
        have hu : ∀ i, i < 3 → i ≠ t → un i ≠ v - 1 + 1 := by
          intro i hi _ w
          have := ri_ba_f.mp v2.2.2.2 i hi
          simp only [decide_eq_false_iff_not] at this
          exact this w
        obtain ⟨st', wt', hd', lk', hg', un', dn', E, gX, gY⟩ := ri_mvE (fo := fo) (ft := ft) (ct := ct) (ej := ej) (ps := ps) (sg := sg) (cb := cb) (rv := rv) (mt := mt) (nx := nx) (k := 0) HR D ht v1 v2.2.1 v2.2.2.1 hu (by have := R1 (v - 1) v1; omega)
        rw [show v - 1 + 1 = v by omega] at gX gY
        refine ⟨true, st', wt', hd', lk', hg', un', dn', E, ?_, ?_⟩
        · intro post n p h
          exact openX post n p ⟨fun y => absurd y zv, fun _ => gX _ h⟩
        · intro post h
          exact openY post ⟨fun y => absurd y zv, fun _ => gY _ h⟩
    · -- under way
      obtain ⟨a1, a2, a3, a4, a5, a6⟩ := DA t ht zu
      have hrR := D7 _ a2
      obtain ⟨r, hr⟩ : ∃ r, un t = r + 1 := ⟨un t - 1, by omega⟩
      rw [hr, Nat.add_sub_cancel] at a2 a3 a5 a6 hrR
      obtain ⟨k, hk⟩ : ∃ k, dn t = k + 1 := ⟨dn t - 1, by omega⟩
      rw [hk] at a5 a6
      rw [show 5 * r + (k + 1) - 1 = 5 * r + k by omega] at a6
      have hl5 := RL r
      have hse := SE (5 * r + k)
      have hop := ri_op_d (se (5 * r + k))
      have hsec : (hg t - 1) / 2 = se (5 * r + k) / 2 := by rw [a6, Nat.add_sub_cancel]; exact hop
      have hu : ∀ i, i < 3 → i ≠ t → un i ≠ r + 1 := by
        intro i hi hne w
        exact hne (DB i t hi ht (by omega) (by omega))
      have eu : ri_u un t (r + 1) = un := ri_ui hr
      have ed : ri_u dn t (k + 1) = dn := ri_ui hk
      have hlk := D3 (se (5 * r + k) / 2)
      have openX : ∀ (post : Int32 → SX → Prop) (n p : Nat) (lk1 : Nat → Nat), (lk (se (5 * r + k) / 2) = r + 1 → lk1 = ri_u lk (se (5 * r + k) / 2) 0) → (lk (se (5 * r + k) / 2) ≠ r + 1 → lk1 = lk) → wX_moveTrain_29 (fun u => match u with | (x1, x2, x3, x4, x5, x6, x7, x8, x9, y0, y1, y2, y3, y4, y5, y6, y7, y8, y9, z0) => wX_moveTrains_4 post n (nI (p + 1)) (nI (t + 1)) x1 x2 x3 x4 x5 x6 x7 x8 x9 y0 y1 y2 y3 y4 y5 y6 y7 y8 y9 z0) (nI t) (nI r) (nI J) (nI R) (ri_n fo) (ri_n ft) (ri_n ct) (ri_n ej) (ri_n ps) (ri_b sg) (ri_n rs) (ri_n rl) (ri_n sj) (ri_n se) cb (ri_b st) (ri_n wt) (ri_b (ri_u hd (5 * r + k) false)) (ri_x lk1) (ri_x hg) (ri_x un) (ri_n dn) → wX_moveTrains_4 post (n + 1) (nI p) (nI t) (nI J) (nI R) (ri_n fo) (ri_n ft) (ri_n ct) (ri_n ej) (ri_n ps) (ri_b sg) (ri_n rs) (ri_n rl) (ri_n sj) (ri_n se) cb (ri_b st) (ri_n wt) (ri_b hd) (ri_x lk) (ri_x hg) (ri_x un) (ri_n dn) := by
        intro post n p lk1 e1 e0 H
        simp only [wX_moveTrains_4, wX_moveTrains_54]
        simp (disch := omega) only [nI_clamp, ri_in, ri_x_ap, ri_cx_z, ri_le3, nI_1]
        refine br_f (by omega) ⟨ht, br_f zh ⟨ht, br_f zu ⟨ht, br_f zu ?_⟩⟩⟩
        simp only [wpX_moveTrain]
        simp (disch := omega) only [nI_clamp, ri_in, ri_x_ap, ri_n_ap, hr, hk, ri_cx_s, ri_ge0, ri_sub1, Nat.add_sub_cancel]
        refine ⟨ht, nm_e ⟨ht, br_f (by omega) ⟨ht, ?_⟩⟩⟩
        have fin : ∀ lk2 : Nat → Nat, lk1 = lk2 → wX_moveTrain_29 (fun u => match u with | (x1, x2, x3, x4, x5, x6, x7, x8, x9, y0, y1, y2, y3, y4, y5, y6, y7, y8, y9, z0) => (∀ x1_28 : Int32, x1_28 = nI (p + 1) → ∀ x2_29 : Int32, x2_29 = nI (t + 1) → wX_moveTrains_4 post n x1_28 x2_29 x1 x2 x3 x4 x5 x6 x7 x8 x9 y0 y1 y2 y3 y4 y5 y6 y7 y8 y9 z0)) (nI t) (nI r) (nI J) (nI R) (ri_n fo) (ri_n ft) (ri_n ct) (ri_n ej) (ri_n ps) (ri_b sg) (ri_n rs) (ri_n rl) (ri_n sj) (ri_n se) cb (ri_b st) (ri_n wt) (ri_b (ri_u hd (5 * r + k) false)) (ri_x lk2) (ri_x hg) (ri_x un) (ri_n dn) := by
          intro lk2 e
          subst e
          refine Eq.mp ?_ H
          congr 1
          funext u
          obtain ⟨x1, x2, x3, x4, x5, x6, x7, x8, x9, y0, y1, y2, y3, y4, y5, y6, y7, y8, y9, z0⟩ := u
          simp only [forall_eq]
        exact rx_rstep (by omega) (by omega) SE D3 (fun w => fin _ (e1 w)) (fun w => fin _ (e0 w))
      have openY : ∀ (post : Int32 → SY → Prop) (lk1 : Nat → Nat), (lk (se (5 * r + k) / 2) = r + 1 → lk1 = ri_u lk (se (5 * r + k) / 2) 0) → (lk (se (5 * r + k) / 2) ≠ r + 1 → lk1 = lk) → wY_move_105 post (nI t) (nI r) (nI (k + 1)) (nI J) (nI R) (ri_n fo) (ri_n ft) (ri_b sg) (ri_n ps) (ri_n rs) (ri_n rl) (ri_n sj) (ri_n se) (ri_b st) (ri_n wt) (ri_b (ri_u hd (5 * r + k) false)) (ri_x lk1) (ri_y hg) (ri_y un) (ri_n dn) rv mt nx → wpY_move post (sY J R fo ft sg ps rs rl sj se st wt hd lk hg un dn rv mt nx) (nI t) := by
        intro post lk1 e1 e0 H
        have T : ∀ lk2 : Nat → Nat, lk1 = lk2 → wY_move_86 post (nI t) (nI r) (nI (k + 1)) (nI J) (nI R) (ri_n fo) (ri_n ft) (ri_b sg) (ri_n ps) (ri_n rs) (ri_n rl) (ri_n sj) (ri_n se) (ri_b st) (ri_n wt) (ri_b hd) (ri_x lk2) (ri_y hg) (ri_y un) (ri_n dn) rv mt nx := by
          intro lk2 e
          subst e
          simp only [wY_move_86]
          simp (disch := omega) only [ri_mul5', nI_add, ri_sub1, nI_clamp, ri_in, ri_nar0, ri_upd_b, ri_ge0]
          rw [show 5 * r + (k + 1) - 1 = 5 * r + k by omega]
          exact br_f (by omega) ⟨by omega, nm_e H⟩
        simp only [wpY_move]
        simp (disch := omega) only [nI_clamp, ri_in, ri_y_ap, ri_cy_g]
        refine ⟨ht, br_t zh ⟨ht, br_t zu ?_⟩⟩
        simp only [wY_move_38]
        simp (disch := omega) only [nI_clamp, ri_in, ri_y_ap, ri_n_ap, hr, hk, ri_cy_s, ri_cy_p zh, ri_div2, hsec]
        refine ⟨ht, nm_e ?_⟩
        refine br_t (nI_pos' (by omega)) ⟨ht, by decide, nm_e ⟨ht, nm_e ?_⟩⟩
        simp (disch := omega) only [nI_clamp, ri_in, ri_x_ap, ri_cx_e, ri_upd_x0]
        exact ⟨by omega, br_c (fun w => ⟨by omega, nm_e (T _ (e1 w))⟩) (fun w => T _ (e0 w))⟩
      obtain ⟨lk1, e1, e0, e2⟩ : ∃ lk1 : Nat → Nat, (lk (se (5 * r + k) / 2) = r + 1 → lk1 = ri_u lk (se (5 * r + k) / 2) 0) ∧ (lk (se (5 * r + k) / 2) ≠ r + 1 → lk1 = lk) ∧ (∀ s, lk1 s = 0 ∨ lk1 s = lk s) := by
        by_cases w : lk (se (5 * r + k) / 2) = r + 1
        · refine ⟨_, fun _ => rfl, fun y => absurd w y, fun s => ?_⟩
          unfold ri_u; split
          · exact Or.inl rfl
          · exact Or.inr rfl
        · exact ⟨lk, fun y => absurd y w, fun _ => rfl, fun s => Or.inr rfl⟩
      have Dc : ri_D R rl se st wt (ri_u hd (5 * r + k) false) lk1 hg un dn := by
        refine ri_D_clr D (fun x h => ?_) e2
        by_cases y : x = 5 * r + k
        · subst y; rw [ri_us] at h; exact absurd h (by decide)
        · rw [ri_un y] at h; exact h
      obtain ⟨st', wt', hd', lk', hg', un', dn', E, gX, gY⟩ := ri_mvE (fo := fo) (ft := ft) (ct := ct) (ej := ej) (ps := ps) (sg := sg) (cb := cb) (rv := rv) (mt := mt) (nx := nx) (k := k + 1) HR Dc ht hrR a2 a3 hu a5
      rw [eu, ed] at gX gY
      refine ⟨true, st', wt', hd', lk', hg', un', dn', E, ?_, ?_⟩
      · intro post n p h
        exact openX post n p lk1 e1 e0 (gX _ h)
      · intro post h
        exact openY post lk1 e1 e0 (gY _ h)
end
