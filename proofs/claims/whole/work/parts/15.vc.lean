def ri_Inv (J R : Nat) (fo ft ct ej ps rs rl sj se : Nat → Nat) (cb : Nat → Int32) (st : Nat → Bool) (wt : Nat → Nat) (hd : Nat → Bool) (lk hg un dn : Nat → Nat) : Prop := ri_J J fo ft ct ej ∧ (∀ a, ps a ≤ 1) ∧ ri_R J R rs rl sj se ∧ ri_C R fo ft rl sj se cb ∧ ri_D R rl se st wt hd lk hg un dn
def i_Rel (k : Nat) (u : SX) (v : SY) : Prop := ∃ (J R : Nat) (fo ft ct ej ps : Nat → Nat) (sg : Nat → Bool) (rs rl sj se : Nat → Nat) (cb : Nat → Int32) (st : Nat → Bool) (wt : Nat → Nat) (hd : Nat → Bool) (lk hg un dn : Nat → Nat) (rv mt nx : Nat → Int32), u = (sX J R fo ft ct ej ps sg rs rl sj se cb st wt hd lk hg un dn) ∧ v = (sY J R fo ft sg ps rs rl sj se st wt hd lk hg un dn rv mt nx) ∧ ri_Inv J R fo ft ct ej ps rs rl sj se cb st wt hd lk hg un dn
theorem i_up {k : Nat} {u : SX} {v : SY} (h : i_Rel k u v) : i_Rel (k + 3) u v := h
section
variable {J R : Nat} {fo ft ct ej ps : Nat → Nat} {sg : Nat → Bool} {rs rl sj se : Nat → Nat} {cb : Nat → Int32} {st : Nat → Bool} {wt : Nat → Nat} {hd : Nat → Bool} {lk hg un dn : Nat → Nat} {rv mt nx : Nat → Int32}
theorem ri_rel {k : Nat} (H : ri_Inv J R fo ft ct ej ps rs rl sj se cb st wt hd lk hg un dn) : i_Rel k (sX J R fo ft ct ej ps sg rs rl sj se cb st wt hd lk hg un dn) (sY J R fo ft sg ps rs rl sj se st wt hd lk hg un dn rv mt nx) := ⟨J, R, fo, ft, ct, ej, ps, sg, rs, rl, sj, se, cb, st, wt, hd, lk, hg, un, dn, rv, mt, nx, rfl, rfl, H⟩
def ri_z (n : Nat) : Nat → Nat := fun s => if s < n then 0 else 1
theorem ri_z_s (n : Nat) : ri_u (ri_z n) n 0 = ri_z (n + 1) := by
  funext s
  simp only [ri_u, ri_z]
  by_cases h : s = n
  · rw [if_pos h, if_pos (by omega)]
  · rw [if_neg h]
    by_cases h2 : s < n
    · rw [if_pos h2, if_pos (by omega)]
    · rw [if_neg h2, if_neg (by omega)]
theorem rx_init {post : SX → Prop} (h : post (sX 0 0 (fun _ => 0) (fun _ => 0) (fun _ => 0) (fun _ => 0) (fun _ => 0) (fun _ => false) (fun _ => 0) (fun _ => 0) (fun _ => 0) (fun _ => 0) (fun _ => 0) (fun _ => false) (fun _ => 0) (fun _ => false) (ri_z 10) (ri_z 3) (ri_z 3) (fun _ => 0))) : wpX_init post := by
  refine ri_fo (fun n i => wX_init_157 post 0 0 n (nI i) (ri_n fun _ => 0) (ri_n fun _ => 0) (ri_n fun _ => 0) (ri_n fun _ => 0) (ri_n fun _ => 0) (ri_b fun _ => false) (ri_n fun _ => 0) (ri_n fun _ => 0) (ri_n fun _ => 0) (ri_n fun _ => 0) (fun _ => 0) (ri_b fun _ => false) (ri_n fun _ => 0) (ri_b fun _ => false) (ri_x (ri_z i)) (ri_x (ri_z 0)) (ri_x (ri_z 0)) (ri_n fun _ => 0)) 10 ?_ ?_
  · intro n
    refine br_t (nI_le (a := 10) (b := 10) (by omega) (by omega)) ?_
    refine ri_fo (fun n i => wX_init_179 post 0 0 n (nI i) (ri_n fun _ => 0) (ri_n fun _ => 0) (ri_n fun _ => 0) (ri_n fun _ => 0) (ri_n fun _ => 0) (ri_b fun _ => false) (ri_n fun _ => 0) (ri_n fun _ => 0) (ri_n fun _ => 0) (ri_n fun _ => 0) (fun _ => 0) (ri_b fun _ => false) (ri_n fun _ => 0) (ri_b fun _ => false) (ri_x (ri_z 10)) (ri_x (ri_z i)) (ri_x (ri_z i)) (ri_n fun _ => 0)) 3 ?_ ?_
    · intro n
      exact br_t (nI_le (a := 3) (b := 3) (by omega) (by omega)) h
    · intro n i hi p
      simp only [wX_init_179]
      simp (disch := omega) only [nI_clamp, ri_in, ri_le3, ri_upd_x0, ri_z_s, nI_1]
      exact br_f (by omega) ⟨hi, nm_e ⟨hi, nm_e (nm_e p)⟩⟩
  · intro n i hi p
    simp only [wX_init_157]
    simp (disch := omega) only [nI_clamp, ri_in, ri_le10, ri_upd_x0, ri_z_s, nI_1]
    exact br_f (by omega) ⟨hi, nm_e (nm_e p)⟩
theorem ry_init {post : SY → Prop} (h : post (sY 0 0 (fun _ => 0) (fun _ => 0) (fun _ => false) (fun _ => 0) (fun _ => 0) (fun _ => 0) (fun _ => 0) (fun _ => 0) (fun _ => false) (fun _ => 0) (fun _ => false) (ri_z 10) (ri_z 3) (ri_z 3) (fun _ => 0) (fun _ => 0) (fun _ => 0) (fun _ => 0))) : wpY_init post := by
  refine ri_fo (fun n i => wY_init_157 post 0 0 n (nI i) (ri_n fun _ => 0) (ri_n fun _ => 0) (ri_b fun _ => false) (ri_n fun _ => 0) (ri_n fun _ => 0) (ri_n fun _ => 0) (ri_n fun _ => 0) (ri_n fun _ => 0) (ri_b fun _ => false) (ri_n fun _ => 0) (ri_b fun _ => false) (ri_x (ri_z i)) (ri_y (ri_z 0)) (ri_y (ri_z 0)) (ri_n fun _ => 0) (fun _ => 0) (fun _ => 0) (fun _ => 0)) 10 ?_ ?_
  · intro n
    refine br_t (nI_le (a := 10) (b := 10) (by omega) (by omega)) ?_
    refine ri_fo (fun n i => wY_init_179 post 0 0 n (nI i) (ri_n fun _ => 0) (ri_n fun _ => 0) (ri_b fun _ => false) (ri_n fun _ => 0) (ri_n fun _ => 0) (ri_n fun _ => 0) (ri_n fun _ => 0) (ri_n fun _ => 0) (ri_b fun _ => false) (ri_n fun _ => 0) (ri_b fun _ => false) (ri_x (ri_z 10)) (ri_y (ri_z i)) (ri_y (ri_z i)) (ri_n fun _ => 0) (fun _ => 0) (fun _ => 0) (fun _ => 0)) 3 ?_ ?_
    · intro n
      exact br_t (nI_le (a := 3) (b := 3) (by omega) (by omega)) h
    · intro n i hi p
      simp only [wY_init_179]
      simp (disch := omega) only [nI_clamp, ri_in, ri_le3, ri_upd_y0, ri_z_s, nI_1]
      exact br_f (by omega) ⟨hi, nm_e ⟨hi, nm_e (nm_e p)⟩⟩
  · intro n i hi p
    simp only [wY_init_157]
    simp (disch := omega) only [nI_clamp, ri_in, ri_le10, ri_upd_x0, ri_z_s, nI_1]
    exact br_f (by omega) ⟨hi, nm_e (nm_e p)⟩
end
theorem ri_z_le (n s : Nat) : ri_z n s ≤ 1 := by unfold ri_z; split <;> omega
theorem ri_z_in {n s : Nat} (h : s < n) : ri_z n s = 0 := if_pos h
theorem ri_Inv0 : ri_Inv 0 0 (fun _ => 0) (fun _ => 0) (fun _ => 0) (fun _ => 0) (fun _ => 0) (fun _ => 0) (fun _ => 0) (fun _ => 0) (fun _ => 0) (fun _ => 0) (fun _ => false) (fun _ => 0) (fun _ => false) (ri_z 10) (ri_z 3) (ri_z 3) (fun _ => 0) := by
  refine ⟨⟨by omega, fun _ => Nat.zero_lt_succ 19, fun _ => Nat.zero_lt_succ 19, fun _ => Nat.zero_le 2, fun _ => Nat.zero_lt_succ 11, fun j hj => by omega, fun a _ => rfl, fun a _ j hj => by omega⟩, fun _ => Nat.zero_le 1, ⟨by omega, fun _ => Nat.zero_lt_succ 19, fun _ => Nat.zero_le 5, fun _ => Nat.zero_lt_succ 11, fun _ => Nat.zero_lt_succ 19, fun j hj => by omega, fun a hj => by omega⟩, fun r hr => by omega, ?_⟩
  refine ⟨fun t => ?_, fun t => ?_, fun t => ?_, fun _ => Nat.zero_le 5, fun _ => Nat.zero_le 3, fun _ h => absurd rfl h, fun _ h => absurd (show false = true from h) (by decide), fun _ h => absurd (show false = true from h) (by decide), fun s h1 h2 => absurd (ri_z_in h1) h2, fun t h1 h2 => absurd (ri_z_in h1) h2, fun t _ h1 _ h2 => absurd (ri_z_in h1) h2⟩
  · have := ri_z_le 3 t; omega
  · have := ri_z_le 3 t; omega
  · have := ri_z_le 10 t; omega
theorem i_vc0 : wpX_init (fun u => wpY_init (fun v => i_Rel 0 u v)) := rx_init (ry_init (ri_rel ri_Inv0))
theorem i_vc_joint {k : Nat} {u : SX} {v : SY} (I : i_Rel k u v) (hk : k + 3 ≤ 1536) (v1 : Int32) (v2 : Int32) : wpX_joint (fun r u' => wpY_joint (fun r' v' => r' = r ∧ i_Rel (k + 3) u' v') v v1 v2) u v1 v2 := by
  obtain ⟨J, R, fo, ft, ct, ej, ps, sg, rs, rl, sj, se, cb, st, wt, hd, lk, hg, un, dn, rv, mt, nx, rfl, rfl, H⟩ := I
  have K : i_Rel (k + 3) (sX J R fo ft ct ej ps sg rs rl sj se cb st wt hd lk hg un dn) (sY J R fo ft sg ps rs rl sj se st wt hd lk hg un dn rv mt nx) := ri_rel H
  obtain ⟨HJ, PS, HR, HC, D⟩ := H
  rcases ri_cut v1 (N := 20) (by omega) with z1 | ⟨a, ha, rfl⟩
  · simp only [wpX_joint]
    refine rx_isE0 z1 (br_t rfl ?_)
    simp only [wpY_joint]
    exact br_c (fun _ => ⟨by trivial, K⟩) (fun _ => ry_inN0 19 (by omega) z1 (br_t rfl ⟨by trivial, K⟩))
  · rcases ri_cut v2 (N := 20) (by omega) with z2 | ⟨b, hb, rfl⟩
    · simp only [wpX_joint]
      refine rx_isE1 ha (br_f (by decide) (rx_isE0 z2 (br_t rfl ?_)))
      simp only [wpY_joint]
      exact br_c (fun _ => ⟨by trivial, K⟩) (fun _ => ry_inN1 19 (by omega) ha (br_f (by decide) (ry_inN0 19 (by omega) z2 (br_t rfl ⟨by trivial, K⟩))))
    · by_cases hab : a / 2 = b / 2
      · have e : nI a / 2 = nI b / 2 := by rw [ri_div2 (by omega), ri_div2 (by omega), hab]
        simp only [wpX_joint]
        refine rx_isE1 ha (br_f (by decide) (rx_isE1 hb (br_f (by decide) ⟨by decide, by decide, br_t e ?_⟩)))
        simp only [wpY_joint]
        exact br_c (fun _ => ⟨by trivial, K⟩) (fun _ => ry_inN1 19 (by omega) ha (br_f (by decide) (ry_inN1 19 (by omega) hb (br_f (by decide) ⟨by decide, by decide, br_t e ⟨by trivial, K⟩⟩))))
      · refine rx_joint ha hb hab HJ HR D (fun w => ry_joint ha hb hab HJ HR D (fun _ => ⟨by trivial, K⟩) (fun q1 q2 q3 q4 q5 => absurd ⟨q1, q2, q3, q4, q5⟩ w)) (fun q1 q2 q3 q4 q5 => ?_)
        have HJ' := ri_Jnew ha hb hab q1 q2 q3 HJ
        obtain ⟨R', rs', rl', sj', se', cb', HR', HC', gX, gY⟩ := ri_find (R := R) (ps := ri_ps0 ps 20) (sg := sg) (cb := cb) (st := st) (wt := wt) (hd := hd) (lk := lk) (hg := hg) (un := un) (dn := dn) (rv := rv) (mt := mt) (nx := nx) HJ' HR.2.1 HR.2.2.1 HR.2.2.2.1 HR.2.2.2.2.1
        refine gX _ (ry_joint ha hb hab HJ HR D (fun w => absurd ⟨q1, q2, q3, q4, q5⟩ w) (fun _ _ _ _ _ => gY _ ⟨by trivial, ri_rel ⟨HJ', ?_, HR', HC', ri_D_free D q5⟩⟩))
        intro x
        unfold ri_ps0; split
        · omega
        · exact PS x
theorem ri_bz (v : Int32) : ∃ b : Bool, lw_bz v = ri_B b := by
  by_cases h : v = 0
  · exact ⟨false, if_pos h⟩
  · exact ⟨true, if_neg h⟩
theorem i_vc_signal {k : Nat} {u : SX} {v : SY} (I : i_Rel k u v) (hk : k + 3 ≤ 1536) (v1 : Int32) (v2 : Int32) : wpX_signal (fun r u' => wpY_signal (fun r' v' => r' = r ∧ i_Rel (k + 3) u' v') v v1 (lw_bz v2)) u v1 (lw_bz v2) := by
  obtain ⟨J, R, fo, ft, ct, ej, ps, sg, rs, rl, sj, se, cb, st, wt, hd, lk, hg, un, dn, rv, mt, nx, rfl, rfl, H⟩ := I
  have K : i_Rel (k + 3) (sX J R fo ft ct ej ps sg rs rl sj se cb st wt hd lk hg un dn) (sY J R fo ft sg ps rs rl sj se st wt hd lk hg un dn rv mt nx) := ri_rel H
  obtain ⟨HJ, PS, HR, HC, D⟩ := H
  obtain ⟨b, hb⟩ := ri_bz v2
  rw [hb]
  simp only [wpX_signal, wpY_signal]
  rcases ri_cut v1 (N := 20) (by omega) with z1 | ⟨a, ha, rfl⟩
  · exact rx_isE0 z1 (br_t rfl (ry_inN0 19 (by omega) z1 (br_t rfl ⟨by trivial, K⟩)))
  · simp (disch := omega) only [nI_clamp, ri_in, ri_b_ap, ri_BB, ri_nar, ri_upd_b]
    refine rx_isE1 ha (br_f (by decide) ⟨ha, ?_⟩)
    by_cases z : sg a = b
    · exact br_t z (ry_inN1 19 (by omega) ha (br_f (by decide) ⟨ha, br_t z ⟨by trivial, K⟩⟩))
    · refine br_f z (rx_free HR.1 D.1 ?_)
      simp only [ri_B0, Bool.not_eq_false']
      refine br_c (fun x => ?_) (fun x => ⟨ha, nm_e ?_⟩)
      · refine ry_inN1 19 (by omega) ha (br_f (by decide) ⟨ha, br_f z (ry_busy D.1 ?_)⟩)
        rw [ri_busyeq HR D, x]
        exact br_f (by decide) ⟨by trivial, K⟩
      · rw [Bool.not_eq_true] at x
        obtain ⟨R', rs', rl', sj', se', cb', HR', HC', gX, gY⟩ := ri_find (R := R) (ps := ps) (sg := ri_u sg a b) (cb := cb) (st := st) (wt := wt) (hd := hd) (lk := lk) (hg := hg) (un := un) (dn := dn) (rv := rv) (mt := mt) (nx := nx) HJ HR.2.1 HR.2.2.1 HR.2.2.2.1 HR.2.2.2.2.1
        refine gX _ (ry_inN1 19 (by omega) ha (br_f (by decide) ⟨ha, br_f z (ry_busy D.1 ?_)⟩))
        rw [ri_busyeq HR D, x]
        exact br_t (by decide) ⟨ha, nm_e (gY _ ⟨by trivial, ri_rel ⟨HJ, PS, HR', HC', ri_D_free D x⟩⟩)⟩
theorem i_vc_put {k : Nat} {u : SX} {v : SY} (I : i_Rel k u v) (hk : k + 3 ≤ 1536) (v1 : Int32) (v2 : Int32) : wpX_put (fun r u' => wpY_put (fun r' v' => r' = r ∧ i_Rel (k + 3) u' v') v v1 v2) u v1 v2 := by
  obtain ⟨J, R, fo, ft, ct, ej, ps, sg, rs, rl, sj, se, cb, st, wt, hd, lk, hg, un, dn, rv, mt, nx, rfl, rfl, H⟩ := I
  have K : i_Rel (k + 3) (sX J R fo ft ct ej ps sg rs rl sj se cb st wt hd lk hg un dn) (sY J R fo ft sg ps rs rl sj se st wt hd lk hg un dn rv mt nx) := ri_rel H
  obtain ⟨HJ, PS, HR, HC, D⟩ := H
  simp only [wpX_put, wpY_put]
  rcases ri_cut v1 (N := 3) (by omega) with z1 | ⟨t, ht, rfl⟩
  · exact rx_isT0 z1 (br_t rfl (ry_inN0 2 (by omega) z1 (br_t rfl ⟨by trivial, K⟩)))
  · have hgt := D.1 t
    simp (disch := omega) only [nI_clamp, ri_in, ri_x_ap, ri_y_ap, ri_cx_z, ri_cy_g, ri_upd_y0]
    refine rx_isT1 ht (br_f (by decide) ?_)
    rcases ri_cut v2 (N := 20) (by omega) with z2 | ⟨a, ha, rfl⟩
    · exact rx_isE0 z2 (br_t rfl (ry_inN1 2 (by omega) ht (br_f (by decide) ⟨ht, br_c (fun _ => ⟨by trivial, K⟩) (fun _ => ry_inN0 19 (by omega) z2 (br_t rfl ⟨by trivial, K⟩))⟩)))
    · have hlk := D.2.2.1 (a / 2)
      simp (disch := omega) only [ri_div2, nI_clamp, ri_in, ri_cx_z, ri_cx_n, ri_upd_xs, ri_upd_ys]
      refine rx_isE1 ha (br_f (by decide) ⟨ht, br_c (fun y => ⟨by decide, rx_occ (by omega) D.1 ?_⟩) (fun y => ry_inN1 2 (by omega) ht (br_f (by decide) ⟨ht, br_t y ⟨by trivial, K⟩⟩))⟩)
      have hun : un t = 0 := by
        by_cases w : un t = 0
        · exact w
        · exact absurd y (D.2.2.2.2.2.2.2.2.2.1 t ht w).1
      simp only [ri_B0]
      refine br_c (fun x => ⟨by decide, by omega, ?_⟩) (fun x => ?_)
      · refine br_c (fun w => ⟨ht, nm_e ?_⟩) (fun w => ?_)
        · refine ry_inN1 2 (by omega) ht (br_f (by decide) ⟨ht, br_f (fun q => q y) (ry_inN1 19 (by omega) ha (br_f (by decide) ⟨by decide, ry_occ (by omega) D.1 ?_⟩))⟩)
          rw [x]
          refine br_t (by decide) ⟨by decide, by omega, br_t w ⟨ht, nm_e ⟨ht, nm_e ⟨by trivial, ?_⟩⟩⟩⟩
          rw [ri_ui hun]
          refine ri_rel ⟨HJ, PS, HR, HC, ?_⟩
          have D2 := ri_D_off (x := a + 1) (y := dn t) D ht (by omega) (D.2.2.2.1 t)
          rw [ri_ui hun, ri_ui rfl] at D2
          exact D2
        · refine ry_inN1 2 (by omega) ht (br_f (by decide) ⟨ht, br_f (fun q => q y) (ry_inN1 19 (by omega) ha (br_f (by decide) ⟨by decide, ry_occ (by omega) D.1 ?_⟩))⟩)
          rw [x]
          exact br_t (by decide) ⟨by decide, by omega, br_f w ⟨by trivial, K⟩⟩
      · refine ry_inN1 2 (by omega) ht (br_f (by decide) ⟨ht, br_f (fun q => q y) (ry_inN1 19 (by omega) ha (br_f (by decide) ⟨by decide, ry_occ (by omega) D.1 ?_⟩))⟩)
        rw [Bool.not_eq_false] at x
        rw [x]
        exact br_f (by decide) ⟨by trivial, K⟩
theorem i_vc_turn {k : Nat} {u : SX} {v : SY} (I : i_Rel k u v) (hk : k + 3 ≤ 1536) (v1 : Int32) (v2 : Int32) : wpX_turn (fun r u' => wpY_turn (fun r' v' => r' = r ∧ i_Rel (k + 3) u' v') v v1 v2) u v1 v2 := by
  obtain ⟨J, R, fo, ft, ct, ej, ps, sg, rs, rl, sj, se, cb, st, wt, hd, lk, hg, un, dn, rv, mt, nx, rfl, rfl, H⟩ := I
  have K : i_Rel (k + 3) (sX J R fo ft ct ej ps sg rs rl sj se cb st wt hd lk hg un dn) (sY J R fo ft sg ps rs rl sj se st wt hd lk hg un dn rv mt nx) := ri_rel H
  obtain ⟨HJ, PS, HR, HC, D⟩ := H
  simp only [wpX_turn, wpY_turn]
  rcases ri_cut v1 (N := 3) (by omega) with z1 | ⟨t, ht, rfl⟩
  · exact rx_isT0 z1 (br_t rfl (ry_inN0 2 (by omega) z1 (br_t rfl ⟨by trivial, K⟩)))
  · have hgt := D.1 t
    have hut := D.2.1 t
    simp (disch := omega) only [nI_clamp, ri_in, ri_x_ap, ri_y_ap, ri_cx_z, ri_cy_g, ri_cy_n, ri_upd_y0, ri_upd_x0]
    refine rx_isT1 ht (br_f (by decide) ?_)
    rcases ri_cut v2 (N := 2) (by omega) with z2 | ⟨w, hw, rfl⟩
    · by_cases y : v2 < 0
      · exact br_t y (ry_inN1 2 (by omega) ht (br_f (by decide) ⟨ht, br_c (fun _ => ⟨by trivial, K⟩) (fun _ => ⟨ht, br_c (fun _ => ⟨by trivial, K⟩) (fun _ => ry_inN0 1 (by omega) z2 (br_t rfl ⟨by trivial, K⟩))⟩)⟩))
      · refine br_f y (br_f (fun y2 => ?_) (ry_inN1 2 (by omega) ht (br_f (by decide) ⟨ht, br_c (fun _ => ⟨by trivial, K⟩) (fun _ => ⟨ht, br_c (fun _ => ⟨by trivial, K⟩) (fun _ => ry_inN0 1 (by omega) z2 (br_t rfl ⟨by trivial, K⟩))⟩)⟩)))
        rcases z2 with z | z
        · exact y z
        · exact absurd (Int32.le_trans z y2) (by decide)
    · refine br_f (nI_pos (by omega)) (br_t (nI_le (b := 1) (by omega) (by omega)) ⟨ht, br_c (fun y => ?_) (fun y => ⟨ht, br_c (fun x => ?_) (fun x => ?_)⟩)⟩)
      · exact ry_inN1 2 (by omega) ht (br_f (by decide) ⟨ht, br_t y ⟨by trivial, K⟩⟩)
      · simp (disch := omega) only [ri_eq0]
        refine br_c (fun q => ⟨ht, nm_e ?_⟩) (fun q => ⟨ht, ht, ?_⟩)
        · refine ry_inN1 2 (by omega) ht (br_f (by decide) ⟨ht, br_f y ⟨ht, br_f (fun p => p x) (ry_inN1 1 (by omega) hw (br_f (by decide) (br_t q ⟨ht, nm_e ⟨by trivial, ?_⟩⟩)))⟩⟩)
          refine ri_rel ⟨HJ, PS, HR, HC, ?_⟩
          have D2 := ri_D_off (x := 0) (y := dn t) D ht (by omega) (D.2.2.2.1 t)
          rw [ri_ui x, ri_ui rfl] at D2
          exact D2
        · have hop := ri_op_lt (show hg t - 1 < 20 by omega)
          rw [ri_cx_p y, ri_op_x _ (by omega), ri_upd_xs]
          refine nm_e ?_
          refine ry_inN1 2 (by omega) ht (br_f (by decide) ⟨ht, br_f y ⟨ht, br_f (fun p => p x) (ry_inN1 1 (by omega) hw (br_f (by decide) (br_f q ⟨ht, ?_⟩)))⟩⟩)
          simp only [wpY_opposite]
          rw [ri_cy_p y, ri_op_x _ (by omega), ri_upd_ys]
          refine ⟨ht, nm_e ⟨by trivial, ri_rel ⟨HJ, PS, HR, HC, ?_⟩⟩⟩
          have D2 := ri_D_off (x := ri_op (hg t - 1) + 1) (y := dn t) D ht (by omega) (D.2.2.2.1 t)
          rw [ri_ui x, ri_ui rfl] at D2
          exact D2
      · exact ry_inN1 2 (by omega) ht (br_f (by decide) ⟨ht, br_f y ⟨ht, br_t x ⟨by trivial, K⟩⟩⟩)
theorem i_vc_set {k : Nat} {u : SX} {v : SY} (I : i_Rel k u v) (hk : k + 3 ≤ 1536) (v1 : Int32) : wpX_set (fun r u' => wpY_set (fun r' v' => r' = r ∧ i_Rel (k + 3) u' v') v v1) u v1 := by
  obtain ⟨J, R, fo, ft, ct, ej, ps, sg, rs, rl, sj, se, cb, st, wt, hd, lk, hg, un, dn, rv, mt, nx, rfl, rfl, H⟩ := I
  have K : i_Rel (k + 3) (sX J R fo ft ct ej ps sg rs rl sj se cb st wt hd lk hg un dn) (sY J R fo ft sg ps rs rl sj se st wt hd lk hg un dn rv mt nx) := ri_rel H
  obtain ⟨HJ, PS, HR, HC, D⟩ := H
  have HR' := HR
  obtain ⟨hR, RS, RL, SJ, SE, R1, R2⟩ := HR'
  simp only [wpX_set, wpY_set]
  rcases ri_cut v1 (N := R) (by omega) with z1 | ⟨r, hr, rfl⟩
  · exact rx_isR0 z1 (br_t rfl (ry_isR0 hR z1 (br_t rfl ⟨by trivial, K⟩)))
  · refine rx_isR1 hR hr (br_f (by decide) (rx_obs (by omega) hR D.1 D.2.2.1 HJ.2.2.2.1 HJ.2.2.2.2.1 PS RL SJ SE HJ.2.1 HJ.2.2.1 ?_))
    have e := ri_stkeq hr HJ PS HR D
    have hob : ri_obs (ri_eocc hg rl se r) (ri_elck lk rl se r) (ri_nfp R fo ft ct ej ps rl sj hd hg r) (st r) ≤ 4 := by
      unfold ri_obs; split; · omega
      split; · omega
      split; · omega
      split <;> omega
    have Yw : ∀ post : Int32 → Prop, post (nI (ri_obs (ri_eocc hg rl se r) (ri_elck lk rl se r) (ri_nfp R fo ft ct ej ps rl sj hd hg r) (st r))) → wpY_blocked post (sY J R fo ft sg ps rs rl sj se st wt hd lk hg un dn rv mt nx) (nI r) := by
      intro post h
      exact ry_blk hr hR HJ D.1 D.2.2.1 RL SJ SE PS (by rw [e]; exact h)
    by_cases z : ri_obs (ri_eocc hg rl se r) (ri_elck lk rl se r) (ri_nfp R fo ft ct ej ps rl sj hd hg r) (st r) = 0
    · have hs : st r = false := by
        cases w : st r with
        | false => rfl
        | true => rw [w] at z; exact absurd z (by unfold ri_obs; rw [if_pos rfl]; decide)
      have hw : wt r = 0 := by
        by_cases w : wt r = 0
        · exact w
        · have := D.2.2.2.2.2.1 r w; rw [hs] at this; exact absurd this (by decide)
      rw [z] at Yw ⊢
      simp (disch := omega) only [nI_clamp, ri_in, ri_nar1, ri_upd_b, ri_upd_n0, ri_mul5']
      refine br_t rfl ⟨by omega, nm_e (rx_setL (by omega) HJ.2.2.2.1 HJ.2.2.2.2.1 HJ.2.1 HJ.2.2.1 RL SJ SE ?_)⟩
      refine ry_isR1 hR hr (br_f (by decide) (Yw _ (br_t rfl ⟨by omega, nm_e ⟨by omega, nm_e (nm_e ?_)⟩⟩)))
      rw [ri_ui hw]
      refine ry_setL (by omega) HJ RL SJ SE ⟨by trivial, ri_rel ⟨HJ, ri_psS_le PS _, HR, HC, ri_D_set D hr hR RL hs⟩⟩
    · have hz : ¬ nI (ri_obs (ri_eocc hg rl se r) (ri_elck lk rl se r) (ri_nfp R fo ft ct ej ps rl sj hd hg r) (st r)) = 0 := by
        rw [ri_eq0 (by omega)]; exact z
      exact br_f hz (ry_isR1 hR hr (br_f (by decide) (Yw _ (br_f hz ⟨by trivial, K⟩))))
theorem i_vc_cancel {k : Nat} {u : SX} {v : SY} (I : i_Rel k u v) (hk : k + 3 ≤ 1536) (v1 : Int32) : wpX_cancel (fun r u' => wpY_cancel (fun r' v' => r' = r ∧ i_Rel (k + 3) u' v') v v1) u v1 := by
  obtain ⟨J, R, fo, ft, ct, ej, ps, sg, rs, rl, sj, se, cb, st, wt, hd, lk, hg, un, dn, rv, mt, nx, rfl, rfl, H⟩ := I
  have K : i_Rel (k + 3) (sX J R fo ft ct ej ps sg rs rl sj se cb st wt hd lk hg un dn) (sY J R fo ft sg ps rs rl sj se st wt hd lk hg un dn rv mt nx) := ri_rel H
  obtain ⟨HJ, PS, HR, HC, D⟩ := H
  rcases ri_cut v1 (N := R) (by have := HR.1; omega) with z1 | ⟨r, hr, rfl⟩
  · simp only [wpX_cancel, wpY_cancel]
    exact rx_isR0 z1 (br_t rfl (ry_isR0 HR.1 z1 (br_t rfl ⟨by trivial, K⟩)))
  · have tu : ri_trav un r = false → ∀ t, t < 3 → un t ≠ r + 1 := by
      intro h t ht w
      have := ri_ba_f.mp h t ht
      simp only [decide_eq_false_iff_not] at this
      exact this w
    refine rx_cancel hr HR D (fun w => ry_cancel hr HR D (fun _ => ⟨by trivial, K⟩) (fun a b c _ => ?_) (fun a b c _ => ?_)) (fun a b c d => ry_cancel hr HR D (fun w => ?_) (fun _ _ _ _ => ⟨by trivial, ri_rel ⟨HJ, PS, HR, HC, ri_D_wt D a (tu c) (by omega)⟩⟩) (fun _ _ _ d' => ?_)) (fun a b c d => ry_cancel hr HR D (fun w => ?_) (fun _ _ _ d' => ?_) (fun _ _ _ _ => ⟨by trivial, ?_⟩))
    · rcases w with w | w | w
      · rw [a] at w; exact absurd w (by decide)
      · exact absurd b w
      · rw [c] at w; exact absurd w (by decide)
    · rcases w with w | w | w
      · rw [a] at w; exact absurd w (by decide)
      · exact absurd b w
      · rw [c] at w; exact absurd w (by decide)
    · rcases w with w | w | w
      · rw [a] at w; exact absurd w (by decide)
      · exact absurd b w
      · rw [c] at w; exact absurd w (by decide)
    · rw [d] at d'; exact absurd d' (by decide)
    · rcases w with w | w | w
      · rw [a] at w; exact absurd w (by decide)
      · exact absurd b w
      · rw [c] at w; exact absurd w (by decide)
    · rw [d] at d'; exact absurd d' (by decide)
    · have D2 := ri_D_rel D (tu c)
      rw [ri_ui b] at D2 ⊢
      exact ri_rel ⟨HJ, PS, HR, HC, D2⟩
theorem i_vc_tick {k : Nat} {u : SX} {v : SY} (I : i_Rel k u v) (hk : k + 3 ≤ 1536) (v1 : Int32) : wpX_tick (fun r u' => wpY_tick (fun r' v' => r' = r ∧ i_Rel (k + 3) u' v') v v1) u v1 := by
  obtain ⟨J, R, fo, ft, ct, ej, ps, sg, rs, rl, sj, se, cb, st, wt, hd, lk, hg, un, dn, rv, mt, nx, rfl, rfl, H⟩ := I
  obtain ⟨HJ, PS, HR, HC, D⟩ := H
  have go : ∀ c, c ≤ 20 → (∀ i, i < c → ¬ v1 ≤ nI i) → (v1 ≤ nI c ∨ c = 20) → (∀ post : Int32 → SY → Prop, (∃ n, wY_tick_26 post (nI c) n 0 0 (nI J) (nI R) (ri_n fo) (ri_n ft) (ri_b sg) (ri_n ps) (ri_n rs) (ri_n rl) (ri_n sj) (ri_n se) (ri_b st) (ri_n wt) (ri_b hd) (ri_x lk) (ri_y hg) (ri_y un) (ri_n dn) rv mt nx) → wpY_tick post (sY J R fo ft sg ps rs rl sj se st wt hd lk hg un dn rv mt nx) v1) → wpX_tick (fun r u' => wpY_tick (fun r' v' => r' = r ∧ i_Rel (k + 3) u' v') (sY J R fo ft sg ps rs rl sj se st wt hd lk hg un dn rv mt nx) v1) (sX J R fo ft ct ej ps sg rs rl sj se cb st wt hd lk hg un dn) v1 := by
    intro c hc h1 h2 hY
    obtain ⟨q, st', wt', hd', lk', hg', un', dn', D', gX, gY⟩ := ri_tck (fo := fo) (ft := ft) (ct := ct) (ej := ej) (ps := ps) (sg := sg) (cb := cb) (rv := rv) (mt := mt) (nx := nx) HR hc h1 h2 c 0 (by omega) st wt hd lk hg un dn 0 D
    exact ⟨c + 1, gX _ (hY _ ⟨c + 1, gY _ ⟨by trivial, ri_rel ⟨HJ, PS, HR, HC, D'⟩⟩⟩)⟩
  by_cases z : v1 < 0
  · refine go 0 (by omega) (fun i hi => by omega) (Or.inl (Int32.le_of_lt z)) (fun post h => ?_)
    exact br_f (Int32.not_le.mpr z) h
  · have z' : 0 ≤ v1 := Int32.not_lt.mp z
    obtain ⟨m, hm, rfl⟩ := nI_of z
    by_cases y : m ≤ 20
    · refine go m y (fun i hi => nI_ge hi hm) (Or.inl (nI_le (Nat.le_refl _) hm)) (fun post h => ?_)
      exact br_t z' (br_t (nI_le (b := 20) y (by omega)) h)
    · refine go 20 (by omega) (fun i hi => nI_ge (by omega) hm) (Or.inr rfl) (fun post h => ?_)
      exact br_t z' (br_f (nI_ge (a := 20) (by omega) hm) h)
theorem i_vc_routes {k : Nat} {u : SX} {v : SY} (I : i_Rel k u v) (hk : k + 3 ≤ 1536) : wpX_routes (fun r => wpY_routes (fun r' => r' = r ∧ i_Rel (k + 3) u v) v) u := by
  obtain ⟨J, R, fo, ft, ct, ej, ps, sg, rs, rl, sj, se, cb, st, wt, hd, lk, hg, un, dn, rv, mt, nx, rfl, rfl, H⟩ := I
  exact ⟨by trivial, ri_rel H⟩
theorem i_vc_via {k : Nat} {u : SX} {v : SY} (I : i_Rel k u v) (hk : k + 3 ≤ 1536) (v1 : Int32) (v2 : Int32) : wpX_via (fun r => wpY_via (fun r' => r' = r ∧ i_Rel (k + 3) u v) v v1 v2) u v1 v2 := by
  obtain ⟨J, R, fo, ft, ct, ej, ps, sg, rs, rl, sj, se, cb, st, wt, hd, lk, hg, un, dn, rv, mt, nx, rfl, rfl, H⟩ := I
  have K : i_Rel (k + 3) (sX J R fo ft ct ej ps sg rs rl sj se cb st wt hd lk hg un dn) (sY J R fo ft sg ps rs rl sj se st wt hd lk hg un dn rv mt nx) := ri_rel H
  obtain ⟨HJ, PS, HR, HC, D⟩ := H
  have hR := HR.1
  simp only [wpX_via, wpY_via]
  rcases ri_cut v1 (N := R) (by omega) with z1 | ⟨r, hr, rfl⟩
  · exact rx_isR0 z1 (br_t rfl (ry_isR0 hR z1 (br_t rfl ⟨by trivial, K⟩)))
  · have hl := HR.2.2.1 r
    have hl1 := HR.2.2.2.2.2.1 r hr
    simp (disch := omega) only [nI_clamp, ri_in, ri_n_ap, ri_sub1, ri_mul5, ri_mul5']
    refine rx_isR1 hR hr (br_f (by decide) ?_)
    rcases ri_cut v2 (N := rl r) (by omega) with z2 | ⟨i, hi, rfl⟩
    · have Yb : ∀ P : Int32 → Prop, P 0 → wpY_in P (sY J R fo ft sg ps rs rl sj se st wt hd lk hg un dn rv mt nx) v2 0 (nI (rl r - 1)) := fun P p => ry_inN0 (rl r - 1) (by omega) (by rw [show rl r - 1 + 1 = rl r by omega]; exact z2) p
      by_cases y : v2 < 0
      · exact br_t y (ry_isR1 hR hr (br_f (by decide) ⟨by omega, Yb _ (br_t rfl ⟨by trivial, K⟩)⟩))
      · refine br_f y ⟨by omega, br_f ?_ (ry_isR1 hR hr (br_f (by decide) ⟨by omega, Yb _ (br_t rfl ⟨by trivial, K⟩)⟩))⟩
        exact Int32.not_lt.mpr (z2.resolve_left y)
    · simp (disch := omega) only [nI_add, nI_clamp, ri_in]
      refine br_f (nI_pos (by omega)) ⟨by omega, br_t (nI_lt hi (by omega)) ⟨by omega, ?_⟩⟩
      exact ry_isR1 hR hr (br_f (by decide) ⟨by omega, ry_inN1 (rl r - 1) (by omega) (by omega) (br_f (by decide) ⟨by omega, by trivial, K⟩)⟩)
theorem i_vc_position {k : Nat} {u : SX} {v : SY} (I : i_Rel k u v) (hk : k + 3 ≤ 1536) (v1 : Int32) : wpX_position (fun r => wpY_position (fun r' => r' = r ∧ i_Rel (k + 3) u v) v v1) u v1 := by
  obtain ⟨J, R, fo, ft, ct, ej, ps, sg, rs, rl, sj, se, cb, st, wt, hd, lk, hg, un, dn, rv, mt, nx, rfl, rfl, H⟩ := I
  have K : i_Rel (k + 3) (sX J R fo ft ct ej ps sg rs rl sj se cb st wt hd lk hg un dn) (sY J R fo ft sg ps rs rl sj se st wt hd lk hg un dn rv mt nx) := ri_rel H
  obtain ⟨HJ, PS, HR, HC, D⟩ := H
  simp only [wpX_position, wpY_position]
  rcases ri_cut v1 (N := 20) (by omega) with z1 | ⟨a, ha, rfl⟩
  · exact rx_isE0 z1 (br_t rfl (ry_inN0 19 (by omega) z1 (br_t rfl ⟨by trivial, K⟩)))
  · have hc := HJ.2.2.2.1 a
    simp (disch := omega) only [nI_clamp, ri_in, ri_n_ap]
    refine rx_isE1 ha (br_f (by decide) (rx_point ha HJ.2.2.2.1 ?_))
    by_cases z : ct a = 2
    · rw [decide_eq_true z]
      refine br_f (by decide) ⟨ha, ry_inN1 19 (by omega) ha (br_f (by decide) (ry_jats ha HJ ?_))⟩
      rw [z]
      exact br_t rfl ⟨ha, by trivial, K⟩
    · rw [decide_eq_false z]
      refine br_t rfl (ry_inN1 19 (by omega) ha (br_f (by decide) (ry_jats ha HJ ?_)))
      simp (disch := omega) only [ri_eq2]
      exact br_f z ⟨by trivial, K⟩
theorem i_vc_lock {k : Nat} {u : SX} {v : SY} (I : i_Rel k u v) (hk : k + 3 ≤ 1536) (v1 : Int32) : wpX_lock (fun r => wpY_lock (fun r' => r' = r ∧ i_Rel (k + 3) u v) v v1) u v1 := by
  obtain ⟨J, R, fo, ft, ct, ej, ps, sg, rs, rl, sj, se, cb, st, wt, hd, lk, hg, un, dn, rv, mt, nx, rfl, rfl, H⟩ := I
  have K : i_Rel (k + 3) (sX J R fo ft ct ej ps sg rs rl sj se cb st wt hd lk hg un dn) (sY J R fo ft sg ps rs rl sj se st wt hd lk hg un dn rv mt nx) := ri_rel H
  simp only [wpX_lock, wpY_lock]
  rcases ri_cut v1 (N := 10) (by omega) with z1 | ⟨a, ha, rfl⟩
  · exact rx_isS0 z1 (br_t rfl (ry_inN0 9 (by omega) z1 (br_t rfl ⟨by trivial, K⟩)))
  · have hi : vp_in (nI a) 10 := vp_in_nI ha (by omega)
    exact rx_isS1 ha (br_f (by decide) ⟨hi, ry_inN1 9 (by omega) ha (br_f (by decide) ⟨hi, by trivial, K⟩)⟩)
theorem i_vc_train {k : Nat} {u : SX} {v : SY} (I : i_Rel k u v) (hk : k + 3 ≤ 1536) (v1 : Int32) : wpX_train (fun r => wpY_train (fun r' => r' = r ∧ i_Rel (k + 3) u v) v v1) u v1 := by
  obtain ⟨J, R, fo, ft, ct, ej, ps, sg, rs, rl, sj, se, cb, st, wt, hd, lk, hg, un, dn, rv, mt, nx, rfl, rfl, H⟩ := I
  have K : i_Rel (k + 3) (sX J R fo ft ct ej ps sg rs rl sj se cb st wt hd lk hg un dn) (sY J R fo ft sg ps rs rl sj se st wt hd lk hg un dn rv mt nx) := ri_rel H
  obtain ⟨HJ, PS, HR, HC, D⟩ := H
  simp only [wpX_train, wpY_train]
  rcases ri_cut v1 (N := 3) (by omega) with z1 | ⟨t, ht, rfl⟩
  · exact rx_isT0 z1 (br_t rfl (ry_inN0 2 (by omega) z1 (br_t rfl ⟨by trivial, K⟩)))
  · have h1 := D.1 t
    have h2 := D.2.1 t
    simp (disch := omega) only [nI_clamp, ri_in, ri_x_ap, ri_y_ap, ri_cx_z, ri_cy_g]
    refine rx_isT1 ht (br_f (by decide) ⟨ht, br_c (fun z => ⟨ht, ?_⟩) (fun z => ⟨ht, ht, ?_⟩)⟩)
    · refine ry_inN1 2 (by omega) ht (br_f (by decide) ⟨ht, br_c (fun y => ⟨ht, ht, ?_, K⟩) (fun y => ⟨?_, K⟩)⟩)
      · rw [z, ri_cx_p y, ri_cy_p y, show (100 : Int32) * (ri_cy 0 + 1) = 0 from by decide, Int32.add_zero]
      · rw [show hg t = 0 by omega]; rfl
    · have h3 := (D.2.2.2.2.2.2.2.2.2.1 t ht z).1
      refine ry_inN1 2 (by omega) ht (br_f (by decide) ⟨ht, br_t h3 ⟨ht, ht, ?_, K⟩⟩)
      rw [ri_cx_p z, ri_cy_p z, ri_cx_p h3, ri_cy_p h3]
theorem i_vc_blocked {k : Nat} {u : SX} {v : SY} (I : i_Rel k u v) (hk : k + 3 ≤ 1536) (v1 : Int32) : wpX_blocked (fun r => wpY_blocked (fun r' => r' = r ∧ i_Rel (k + 3) u v) v v1) u v1 := by
  obtain ⟨J, R, fo, ft, ct, ej, ps, sg, rs, rl, sj, se, cb, st, wt, hd, lk, hg, un, dn, rv, mt, nx, rfl, rfl, H⟩ := I
  have K : i_Rel (k + 3) (sX J R fo ft ct ej ps sg rs rl sj se cb st wt hd lk hg un dn) (sY J R fo ft sg ps rs rl sj se st wt hd lk hg un dn rv mt nx) := ri_rel H
  obtain ⟨HJ, PS, HR, HC, D⟩ := H
  have HR' := HR
  obtain ⟨hR, RS, RL, SJ, SE, R1, R2⟩ := HR'
  rcases ri_cut v1 (N := R) (by omega) with z1 | ⟨r, hr, rfl⟩
  · simp only [wpX_blocked, wpY_blocked]
    exact rx_isR0 z1 (br_t rfl (ry_isR0 hR z1 (br_t rfl ⟨by trivial, K⟩)))
  · simp only [wpX_blocked]
    refine rx_isR1 hR hr (br_f (by decide) (rx_obs (by omega) hR D.1 D.2.2.1 HJ.2.2.2.1 HJ.2.2.2.2.1 PS RL SJ SE HJ.2.1 HJ.2.2.1 ?_))
    refine ry_blk hr hR HJ D.1 D.2.2.1 RL SJ SE PS ⟨?_, K⟩
    rw [ri_stkeq hr HJ PS HR D]
theorem i_vc_conflict {k : Nat} {u : SX} {v : SY} (I : i_Rel k u v) (hk : k + 3 ≤ 1536) (v1 : Int32) (v2 : Int32) : wpX_conflict (fun r => wpY_conflict (fun r' => r' = r ∧ i_Rel (k + 3) u v) v v1 v2) u v1 v2 := by
  obtain ⟨J, R, fo, ft, ct, ej, ps, sg, rs, rl, sj, se, cb, st, wt, hd, lk, hg, un, dn, rv, mt, nx, rfl, rfl, H⟩ := I
  have K : i_Rel (k + 3) (sX J R fo ft ct ej ps sg rs rl sj se cb st wt hd lk hg un dn) (sY J R fo ft sg ps rs rl sj se st wt hd lk hg un dn rv mt nx) := ri_rel H
  obtain ⟨HJ, PS, HR, HC, D⟩ := H
  have HR' := HR
  obtain ⟨hR, RS, RL, SJ, SE, R1, R2⟩ := HR'
  simp only [wpX_conflict]
  rcases ri_cut v1 (N := R) (by omega) with z1 | ⟨r, hr, rfl⟩
  · simp only [wpY_conflict]
    exact rx_isR0 z1 (br_t rfl (ry_isR0 hR z1 (br_t rfl ⟨by trivial, K⟩)))
  · refine rx_isR1 hR hr (br_f (by decide) ?_)
    rcases ri_cut v2 (N := R) (by omega) with z2 | ⟨q, hq, rfl⟩
    · simp only [wpY_conflict]
      exact rx_isR0 z2 (br_t rfl (ry_isR1 hR hr (br_f (by decide) (ry_isR0 hR z2 (br_t rfl ⟨by trivial, K⟩)))))
    · have hb := ri_bm_lt (ri_row fo ft rl sj se r) R
      have hp := ri_p31 (n := R) (by omega)
      have h8 : ri_bm (ri_row fo ft rl sj se r) R / 2 ^ q < 2 ^ 31 := by
        have := Nat.div_le_self (ri_bm (ri_row fo ft rl sj se r) R) (2 ^ q); omega
      refine rx_isR1 hR hq (br_f (by decide) ?_)
      simp (disch := omega) only [nI_clamp, ri_in]
      rw [HC r hr]
      simp (disch := omega) only [ri_shr, ri_a1, ri_eq0, ri_bm_t]
      refine ⟨by omega, br_c (fun z => ?_) (fun z => ?_)⟩
      · refine ry_cf hr hq hR HJ RL SJ SE (fun r hr k hk => (R2 r hr k hk).1) ⟨?_, K⟩
        rw [z]; rfl
      · refine ry_cf hr hq hR HJ RL SJ SE (fun r hr k hk => (R2 r hr k hk).1) ⟨?_, K⟩
        rw [Bool.not_eq_false] at z
        rw [z]; rfl
theorem i_vc_largest {k : Nat} {u : SX} {v : SY} (I : i_Rel k u v) (hk : k + 3 ≤ 1536) : wpX_largest (fun r => wpY_largest (fun r' v' => r' = r ∧ i_Rel (k + 3) u v') v) u := by
  obtain ⟨J, R, fo, ft, ct, ej, ps, sg, rs, rl, sj, se, cb, st, wt, hd, lk, hg, un, dn, rv, mt, nx, rfl, rfl, H⟩ := I
  have HH := H
  obtain ⟨HJ, PS, HR, HC, D⟩ := HH
  obtain ⟨hR, RS, RL, SJ, SE, R1, R2⟩ := HR
  exact rx_largest hR HC (ry_largest hR HJ RL SJ SE (fun r hr k hk => (R2 r hr k hk).1) (fun rv' => ⟨by trivial, ri_rel H⟩))
theorem i_vc_hops {k : Nat} {u : SX} {v : SY} (I : i_Rel k u v) (hk : k + 3 ≤ 1536) (v1 : Int32) (v2 : Int32) : wpX_hops (fun r => wpY_hops (fun r' v' => r' = r ∧ i_Rel (k + 3) u v') v v1 v2) u v1 v2 := by
  obtain ⟨J, R, fo, ft, ct, ej, ps, sg, rs, rl, sj, se, cb, st, wt, hd, lk, hg, un, dn, rv, mt, nx, rfl, rfl, H⟩ := I
  have K : i_Rel (k + 3) (sX J R fo ft ct ej ps sg rs rl sj se cb st wt hd lk hg un dn) (sY J R fo ft sg ps rs rl sj se st wt hd lk hg un dn rv mt nx) := ri_rel H
  have HH := H
  obtain ⟨HJ, PS, HR, HC, D⟩ := HH
  obtain ⟨hR, RS, RL, SJ, SE, R1, R2⟩ := HR
  rcases ri_cut v1 (N := 20) (by omega) with z1 | ⟨a, ha, rfl⟩
  · simp only [wpX_hops, wpY_hops]
    exact rx_isE0 z1 (br_t rfl (ry_inN0 19 (by omega) z1 (br_t rfl ⟨by trivial, K⟩)))
  · rcases ri_cut v2 (N := 10) (by omega) with z2 | ⟨s, hs, rfl⟩
    · simp only [wpX_hops, wpY_hops]
      exact rx_isE1 ha (br_f (by decide) (rx_isS0 z2 (br_t rfl (ry_inN1 19 (by omega) ha (br_f (by decide) (ry_inN0 9 (by omega) z2 (br_t rfl ⟨by trivial, K⟩)))))))
    · refine rx_hops ha hs hR RS RL R1 SE (fun z => ?_) (fun z => ?_)
      · exact ry_hops ha hs hR RS RL R1 SE (fun _ => ⟨by trivial, K⟩) (fun y => absurd z y)
      · refine ry_hops ha hs hR RS RL R1 SE (fun y => absurd y z) (fun _ mt' nx' => ⟨?_, ri_rel H⟩)
        rw [ri_hopeq hR z]
