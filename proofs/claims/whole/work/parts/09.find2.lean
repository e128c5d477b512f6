section
variable {J R : Nat} {fo ft ct ej ps : Nat → Nat} {sg : Nat → Bool} {rs rl sj se : Nat → Nat} {cb : Nat → Int32} {st : Nat → Bool} {wt : Nat → Nat} {hd : Nat → Bool} {lk hg un dn : Nat → Nat} {rv mt nx : Nat → Int32}
theorem ri_fol {a ch : Nat} (HJ : ri_J J fo ft ct ej) (HR : ri_R J R rs rl sj se) (hR : R < 16) (ha : a < 20) (hc : ch < 32) :
    ∃ (len : Nat) (sj' se' : Nat → Nat), len ≤ 5 ∧ (∀ i, sj' i < 12) ∧ (∀ i, se' i < 20) ∧ (∀ x, x < 5 * R → sj' x = sj x ∧ se' x = se x) ∧ (∀ k, k < len → sj' (5 * R + k) < J ∧ se' (5 * R + k) / 2 ≠ a / 2) ∧
      (∀ post : Int32 → SX → Prop, post (nI len) (sX J R fo ft ct ej ps sg rs rl sj' se' cb st wt hd lk hg un dn) → wpX_followWay post (sX J R fo ft ct ej ps sg rs rl sj se cb st wt hd lk hg un dn) (nI a) (nI ch)) ∧
      (∀ post : SY → Prop, (len = 0 → post (sY J R fo ft sg ps rs rl sj' se' st wt hd lk hg un dn rv mt nx)) → (len ≠ 0 → post (sY J (R + 1) fo ft sg ps (ri_u rs R a) (ri_u rl R len) sj' se' st wt hd lk hg un dn rv mt nx)) → wpY_follow post (sY J R fo ft sg ps rs rl sj se st wt hd lk hg un dn rv mt nx) (nI a) (nI ch)) := by
  have hp : 2 ^ (a / 2) < 2 ^ 10 := Nat.pow_lt_pow_right (by decide) (by omega)
  obtain ⟨len, sj', se', g1, g2, g3, g4, g5, gX, gY⟩ := ri_fw (ps := ps) (sg := sg) (rs := rs) (rl := rl) (cb := cb) (st := st) (wt := wt) (hd := hd) (lk := lk) (hg := hg) (un := un) (dn := dn) (rv := rv) (mt := mt) (nx := nx) HJ hR ha hc 5 0 rfl a (2 ^ (a / 2)) sj se ha hp (by rw [Nat.testBit_two_pow]; simp) HR.2.2.2.1 HR.2.2.2.2.1 (fun k hk => by omega)
  refine ⟨len, sj', se', g1, g2, g3, g4, g5, ?_, ?_⟩
  · intro post h
    simp only [wpX_followWay]
    refine ⟨by decide, nm_r (e' := nI (2 ^ (a / 2))) ?_ ⟨6, gX post h⟩⟩
    rw [ri_div2 (by omega), ri_sh1 (by omega)]
  · intro post h0 h1
    simp only [wpY_follow]
    refine br_f ?_ ⟨by decide, nm_r (e' := nI (2 ^ (a / 2))) ?_ ⟨6, gY post h0 h1⟩⟩
    · intro z
      exact absurd ((ri_eq16 (by omega)).mp z) (by omega)
    · rw [ri_div2 (by omega), ri_sh1 (by omega)]
theorem ry_full {post : SY → Prop} {J7 : Int32 → Int32 → Int32 → (Nat → Int32) → (Nat → Int32) → (Nat → Int32) → (Nat → Int32) → (Nat → Int32) → (Nat → Int32) → (Nat → Int32) → (Nat → Int32) → (Nat → Int32) → (Nat → Int32) → (Nat → Int32) → (Nat → Int32) → (Nat → Int32) → (Nat → Int32) → (Nat → Int32) → (Nat → Int32) → (Nat → Int32) → (Nat → Int32) → Prop} {a : Nat} (h : J7 (nI (a + 1)) (nI J) (nI 16) (ri_n fo) (ri_n ft) (ri_b sg) (ri_n ps) (ri_n rs) (ri_n rl) (ri_n sj) (ri_n se) (ri_b st) (ri_n wt) (ri_b hd) (ri_x lk) (ri_y hg) (ri_y un) (ri_n dn) rv mt nx) : ∀ d ch, ch + d = 32 → wY_findRoutes_24 post J7 (nI a) (d + 1) (nI ch) (nI J) (nI 16) (ri_n fo) (ri_n ft) (ri_b sg) (ri_n ps) (ri_n rs) (ri_n rl) (ri_n sj) (ri_n se) (ri_b st) (ri_n wt) (ri_b hd) (ri_x lk) (ri_y hg) (ri_y un) (ri_n dn) rv mt nx := by
  intro d
  induction d with
  | zero =>
    intro ch hc
    have e : ch = 32 := by omega
    subst e
    exact br_t (nI_le (a := 32) (b := 32) (by omega) (by omega)) (nm_r (nI_1 _) h)
  | succ d ih =>
    intro ch hc
    generalize hn : d + 1 = n at ih ⊢
    simp only [wY_findRoutes_24]
    refine br_f (nI_ge (b := 32) (by omega) (by omega)) ?_
    simp only [wpY_follow]
    exact br_t rfl (nm_r (nI_1 _) (ih (ch + 1) (by omega)))
theorem ri_frf {a : Nat} (HJ : ri_J J fo ft ct ej) (ha : a < 20) : ∀ d ch, ch + d = 32 → ∀ (R : Nat) (rs rl sj se : Nat → Nat), ri_R J R rs rl sj se → ∃ (R' : Nat) (rs' rl' sj' se' : Nat → Nat), ri_R J R' rs' rl' sj' se' ∧
    (∀ post : SX → Prop, post (sX J R' fo ft ct ej ps sg rs' rl' sj' se' cb st wt hd lk hg un dn) → wX_findRoutesFrom_2 post (nI a) (d + 1) (nI ch) (nI J) (nI R) (ri_n fo) (ri_n ft) (ri_n ct) (ri_n ej) (ri_n ps) (ri_b sg) (ri_n rs) (ri_n rl) (ri_n sj) (ri_n se) cb (ri_b st) (ri_n wt) (ri_b hd) (ri_x lk) (ri_x hg) (ri_x un) (ri_n dn)) ∧
    (∀ (post : SY → Prop) (J7 : Int32 → Int32 → Int32 → (Nat → Int32) → (Nat → Int32) → (Nat → Int32) → (Nat → Int32) → (Nat → Int32) → (Nat → Int32) → (Nat → Int32) → (Nat → Int32) → (Nat → Int32) → (Nat → Int32) → (Nat → Int32) → (Nat → Int32) → (Nat → Int32) → (Nat → Int32) → (Nat → Int32) → (Nat → Int32) → (Nat → Int32) → (Nat → Int32) → Prop), J7 (nI (a + 1)) (nI J) (nI R') (ri_n fo) (ri_n ft) (ri_b sg) (ri_n ps) (ri_n rs') (ri_n rl') (ri_n sj') (ri_n se') (ri_b st) (ri_n wt) (ri_b hd) (ri_x lk) (ri_y hg) (ri_y un) (ri_n dn) rv mt nx → wY_findRoutes_24 post J7 (nI a) (d + 1) (nI ch) (nI J) (nI R) (ri_n fo) (ri_n ft) (ri_b sg) (ri_n ps) (ri_n rs) (ri_n rl) (ri_n sj) (ri_n se) (ri_b st) (ri_n wt) (ri_b hd) (ri_x lk) (ri_y hg) (ri_y un) (ri_n dn) rv mt nx) := by
  intro d
  induction d with
  | zero =>
    intro ch hc R rs rl sj se HR
    have e : ch = 32 := by omega
    subst e
    refine ⟨R, rs, rl, sj, se, HR, ?_, ?_⟩
    · intro post h
      exact br_t (nI_le (a := 32) (b := 32) (by omega) (by omega)) h
    · intro post J7 h
      exact br_t (nI_le (a := 32) (b := 32) (by omega) (by omega)) (nm_r (nI_1 _) h)
  | succ d ih =>
    intro ch hc R rs rl sj se HR
    have HR' := HR
    obtain ⟨hR, RS, RL, SJ, SE, R1, R2⟩ := HR'
    by_cases h16 : R = 16
    · subst h16
      refine ⟨16, rs, rl, sj, se, HR, ?_, ?_⟩
      · intro post h
        generalize hn : d + 1 = n
        simp only [wX_findRoutesFrom_2]
        exact br_f (nI_ge (b := 32) (by omega) (by omega)) (br_t (nI_le (a := 16) (b := 16) (by omega) (by omega)) h)
      · intro post J7 h
        exact ry_full h (d + 1) ch hc
    · obtain ⟨len, sj', se', g1, g2, g3, g4, g5, gX, gY⟩ := ri_fol (ps := ps) (sg := sg) (cb := cb) (st := st) (wt := wt) (hd := hd) (lk := lk) (hg := hg) (un := un) (dn := dn) (rv := rv) (mt := mt) (nx := nx) HJ HR (by omega) ha (show ch < 32 by omega)
      have old : ∀ r, r < R → ∀ i, i < rl r → sj' (5 * r + i) < J ∧ se' (5 * r + i) / 2 ≠ rs r / 2 := by
        intro r hr i hi
        have := RL r
        rw [(g4 (5 * r + i) (by omega)).1, (g4 (5 * r + i) (by omega)).2]
        exact R2 r hr i hi
      by_cases hl : len = 0
      · have HN : ri_R J R rs rl sj' se' := ⟨hR, RS, RL, g2, g3, R1, old⟩
        obtain ⟨R'', rs'', rl'', sj'', se'', q1, qX, qY⟩ := ih (ch + 1) (by omega) R rs rl sj' se' HN
        refine ⟨R'', rs'', rl'', sj'', se'', q1, ?_, ?_⟩
        · intro post h
          have p := qX post h
          generalize hn : d + 1 = n at p ⊢
          simp only [wX_findRoutesFrom_2]
          refine br_f (nI_ge (b := 32) (by omega) (by omega)) (br_f (nI_ge (b := 16) (by omega) (by omega)) (gX _ ?_))
          subst hl
          exact br_t (by decide) (nm_r (nI_1 _) p)
        · intro post J7 h
          have p := qY post J7 h
          generalize hn : d + 1 = n at p ⊢
          simp only [wY_findRoutes_24]
          refine br_f (nI_ge (b := 32) (by omega) (by omega)) (gY _ (fun _ => nm_r (nI_1 _) p) (fun y => absurd hl y))
      · have HN : ri_R J (R + 1) (ri_u rs R a) (ri_u rl R len) sj' se' := by
          refine ⟨by omega, ?_, ?_, g2, g3, ?_, ?_⟩
          · intro r; unfold ri_u; split
            · exact ha
            · exact RS r
          · intro r; unfold ri_u; split
            · exact g1
            · exact RL r
          · intro r hr
            by_cases z : r = R
            · subst z; rw [ri_us]; omega
            · rw [ri_un z]; exact R1 r (by omega)
          · intro r hr i hi
            by_cases z : r = R
            · subst z; rw [ri_us] at hi ⊢; exact g5 i hi
            · rw [ri_un z] at hi ⊢; exact old r (by omega) i hi
        obtain ⟨R'', rs'', rl'', sj'', se'', q1, qX, qY⟩ := ih (ch + 1) (by omega) (R + 1) (ri_u rs R a) (ri_u rl R len) sj' se' HN
        refine ⟨R'', rs'', rl'', sj'', se'', q1, ?_, ?_⟩
        · intro post h
          have p := qX post h
          generalize hn : d + 1 = n at p ⊢
          simp only [wX_findRoutesFrom_2]
          refine br_f (nI_ge (b := 32) (by omega) (by omega)) (br_f (nI_ge (b := 16) (by omega) (by omega)) (gX _ ?_))
          simp (disch := omega) only [nI_clamp, ri_in, ri_upd_n, ri_ge0, nI_1]
          exact br_f (by omega) ⟨by omega, nm_e ⟨by omega, nm_e (nm_e (nm_e p))⟩⟩
        · intro post J7 h
          have p := qY post J7 h
          generalize hn : d + 1 = n at p ⊢
          simp only [wY_findRoutes_24]
          refine br_f (nI_ge (b := 32) (by omega) (by omega)) (gY _ (fun y => absurd y hl) (fun _ => nm_r (nI_1 _) p))
theorem ri_frs (HJ : ri_J J fo ft ct ej) : ∀ d a, a + d = 20 → ∀ (R : Nat) (rs rl sj se : Nat → Nat), ri_R J R rs rl sj se → ∃ (R' : Nat) (rs' rl' sj' se' : Nat → Nat), ri_R J R' rs' rl' sj' se' ∧
    (∀ post : SX → Prop, post (sX J R' fo ft ct ej ps sg rs' rl' sj' se' (ri_cbs fo ft rl' sj' se' R' cb R') st wt hd lk hg un dn) → wX_findRoutes_7 post (d + 1) (nI a) (nI J) (nI R) (ri_n fo) (ri_n ft) (ri_n ct) (ri_n ej) (ri_n ps) (ri_b sg) (ri_n rs) (ri_n rl) (ri_n sj) (ri_n se) cb (ri_b st) (ri_n wt) (ri_b hd) (ri_x lk) (ri_x hg) (ri_x un) (ri_n dn)) ∧
    (∀ post : SY → Prop, post (sY J R' fo ft sg ps rs' rl' sj' se' st wt hd lk hg un dn rv mt nx) → wY_findRoutes_7 post (d + 1) (nI a) (nI J) (nI R) (ri_n fo) (ri_n ft) (ri_b sg) (ri_n ps) (ri_n rs) (ri_n rl) (ri_n sj) (ri_n se) (ri_b st) (ri_n wt) (ri_b hd) (ri_x lk) (ri_y hg) (ri_y un) (ri_n dn) rv mt nx) := by
  intro d
  induction d with
  | zero =>
    intro a ha R rs rl sj se HR
    have e : a = 20 := by omega
    subst e
    refine ⟨R, rs, rl, sj, se, HR, ?_, ?_⟩
    · intro post h
      exact br_t (nI_le (a := 20) (b := 20) (by omega) (by omega)) (rx_fc HR.1 HR.2.2.1 HR.2.2.2.1 HR.2.2.2.2.1 HJ.2.1 HJ.2.2.1 h)
    · intro post h
      exact br_t (nI_le (a := 20) (b := 20) (by omega) (by omega)) h
  | succ d ih =>
    intro a ha R rs rl sj se HR
    by_cases z : sg a = true
    · obtain ⟨R1, rs1, rl1, sj1, se1, HR1, gX, gY⟩ := ri_frf (ps := ps) (sg := sg) (cb := cb) (st := st) (wt := wt) (hd := hd) (lk := lk) (hg := hg) (un := un) (dn := dn) (rv := rv) (mt := mt) (nx := nx) HJ (show a < 20 by omega) 32 0 rfl R rs rl sj se HR
      obtain ⟨R2, rs2, rl2, sj2, se2, HR2, qX, qY⟩ := ih (a + 1) (by omega) R1 rs1 rl1 sj1 se1 HR1
      refine ⟨R2, rs2, rl2, sj2, se2, HR2, ?_, ?_⟩
      · intro post h
        have p := qX post h
        generalize hn : d + 1 = n at p ⊢
        simp only [wX_findRoutes_7]
        simp (disch := omega) only [nI_clamp, ri_in, ri_b_ap, ri_B0, ri_le20]
        refine br_f (by omega) ⟨by omega, br_f (by rw [z]; decide) ⟨33, gX _ (nm_r (nI_1 _) p)⟩⟩
      · intro post h
        have p := qY post h
        generalize hn : d + 1 = n at p ⊢
        simp only [wY_findRoutes_7]
        simp (disch := omega) only [nI_clamp, ri_in, ri_b_ap, ri_B0, ri_le20]
        refine br_f (by omega) ⟨by omega, br_f (by rw [z]; decide) ⟨33, gY _ _ p⟩⟩
    · rw [Bool.not_eq_true] at z
      obtain ⟨R2, rs2, rl2, sj2, se2, HR2, qX, qY⟩ := ih (a + 1) (by omega) R rs rl sj se HR
      refine ⟨R2, rs2, rl2, sj2, se2, HR2, ?_, ?_⟩
      · intro post h
        have p := qX post h
        generalize hn : d + 1 = n at p ⊢
        simp only [wX_findRoutes_7]
        simp (disch := omega) only [nI_clamp, ri_in, ri_b_ap, ri_B0, ri_le20]
        refine br_f (by omega) ⟨by omega, br_t z (nm_r (nI_1 _) p)⟩
      · intro post h
        have p := qY post h
        generalize hn : d + 1 = n at p ⊢
        simp only [wY_findRoutes_7]
        simp (disch := omega) only [nI_clamp, ri_in, ri_b_ap, ri_B0, ri_le20]
        refine br_f (by omega) ⟨by omega, br_t z (nm_r (nI_1 _) p)⟩
def ri_C (R : Nat) (fo ft rl sj se : Nat → Nat) (cb : Nat → Int32) : Prop := ∀ r, r < R → cb r = nI (ri_bm (ri_row fo ft rl sj se r) R)
theorem ri_find (HJ : ri_J J fo ft ct ej) (RS : ∀ r, rs r < 20) (RL : ∀ r, rl r ≤ 5) (SJ : ∀ i, sj i < 12) (SE : ∀ i, se i < 20) : ∃ (R' : Nat) (rs' rl' sj' se' : Nat → Nat) (cb' : Nat → Int32), ri_R J R' rs' rl' sj' se' ∧ ri_C R' fo ft rl' sj' se' cb' ∧
    (∀ post : SX → Prop, post (sX J R' fo ft ct ej ps sg rs' rl' sj' se' cb' st wt hd lk hg un dn) → wpX_findRoutes post (sX J R fo ft ct ej ps sg rs rl sj se cb st wt hd lk hg un dn)) ∧
    (∀ post : SY → Prop, post (sY J R' fo ft sg ps rs' rl' sj' se' st wt hd lk hg un dn rv mt nx) → wpY_findRoutes post (sY J R fo ft sg ps rs rl sj se st wt hd lk hg un dn rv mt nx)) := by
  obtain ⟨R', rs', rl', sj', se', HR, gX, gY⟩ := ri_frs (ps := ps) (sg := sg) (cb := cb) (st := st) (wt := wt) (hd := hd) (lk := lk) (hg := hg) (un := un) (dn := dn) (rv := rv) (mt := mt) (nx := nx) HJ 20 0 rfl 0 rs rl sj se ⟨by omega, RS, RL, SJ, SE, fun r hr => by omega, fun r hr => by omega⟩
  exact ⟨R', rs', rl', sj', se', _, HR, fun r hr => ri_cbs_r R' r hr, fun post h => ⟨21, gX post h⟩, fun post h => ⟨21, gY post h⟩⟩
end
