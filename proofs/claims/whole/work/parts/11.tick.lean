section
variable {J R : Nat} {fo ft ct ej ps : Nat → Nat} {sg : Nat → Bool} {rs rl sj se : Nat → Nat} {cb : Nat → Int32} {st : Nat → Bool} {wt : Nat → Nat} {hd : Nat → Bool} {lk hg un dn : Nat → Nat} {rv mt nx : Nat → Int32}
theorem ri_uu2 {α : Type} {f : Nat → α} {k : Nat} {x y : α} : ri_u (ri_u f k x) k y = ri_u f k y := by
  funext j; simp only [ri_u]; split <;> rfl
/-- a wait that changes between values that aren't 0 -/
theorem ri_D_wt {r x : Nat} (D : ri_D R rl se st wt hd lk hg un dn) (h0 : st r = true) (hu : ∀ t, t < 3 → un t ≠ r + 1) (hx : x ≤ 3) : ri_D R rl se st (ri_u wt r x) hd lk hg un dn := by
  obtain ⟨D1, D2, D3, D4, D5, D6, D7, D8, D9, DA, DB⟩ := D
  refine ⟨D1, D2, D3, D4, ?_, ?_, D7, D8, D9, ?_, DB⟩
  · intro y; unfold ri_u; split
    · omega
    · exact D5 y
  · intro y h
    by_cases z : y = r
    · rw [z]; exact h0
    · rw [ri_un z] at h; exact D6 y h
  · intro t ht h
    have := hu t ht
    rw [ri_un (by omega)]; exact DA t ht h
theorem ri_wtun {r : Nat} (D : ri_D R rl se st wt hd lk hg un dn) (h : wt r ≠ 0) : ∀ t, t < 3 → un t ≠ r + 1 := by
  intro t ht z
  have := (D.2.2.2.2.2.2.2.2.2.1 t ht (by omega)).2.2.1
  rw [z] at this
  exact h this
theorem ri_cd (HR : ri_R J R rs rl sj se) : ∀ d r, r + d = R → ∀ (st : Nat → Bool) (wt : Nat → Nat) (hd : Nat → Bool) (lk : Nat → Nat), ri_D R rl se st wt hd lk hg un dn →
    ∃ (st' : Nat → Bool) (wt' : Nat → Nat) (hd' : Nat → Bool) (lk' : Nat → Nat), ri_D R rl se st' wt' hd' lk' hg un dn ∧
    (∀ post : SX → Prop, post (sX J R fo ft ct ej ps sg rs rl sj se cb st' wt' hd' lk' hg un dn) → wX_countDownCancels_2 post (d + 1) (nI r) (nI J) (nI R) (ri_n fo) (ri_n ft) (ri_n ct) (ri_n ej) (ri_n ps) (ri_b sg) (ri_n rs) (ri_n rl) (ri_n sj) (ri_n se) cb (ri_b st) (ri_n wt) (ri_b hd) (ri_x lk) (ri_x hg) (ri_x un) (ri_n dn)) ∧
    (∀ (post : Int32 → SY → Prop) (J26 : Int32 → Int32 → Int32 → Int32 → (Nat → Int32) → (Nat → Int32) → (Nat → Int32) → (Nat → Int32) → (Nat → Int32) → (Nat → Int32) → (Nat → Int32) → (Nat → Int32) → (Nat → Int32) → (Nat → Int32) → (Nat → Int32) → (Nat → Int32) → (Nat → Int32) → (Nat → Int32) → (Nat → Int32) → (Nat → Int32) → (Nat → Int32) → (Nat → Int32) → Prop) (x2 x3 x4 : Int32), (∃ n, wY_tick_95 post J26 x2 x4 n x3 0 (nI J) (nI R) (ri_n fo) (ri_n ft) (ri_b sg) (ri_n ps) (ri_n rs) (ri_n rl) (ri_n sj) (ri_n se) (ri_b st') (ri_n wt') (ri_b hd') (ri_x lk') (ri_y hg) (ri_y un) (ri_n dn) rv mt nx) → wY_tick_35 post J26 x2 x3 x4 (d + 1) (nI r) (nI J) (nI R) (ri_n fo) (ri_n ft) (ri_b sg) (ri_n ps) (ri_n rs) (ri_n rl) (ri_n sj) (ri_n se) (ri_b st) (ri_n wt) (ri_b hd) (ri_x lk) (ri_y hg) (ri_y un) (ri_n dn) rv mt nx) := by
  have hR := HR.1
  intro d
  induction d with
  | zero =>
    intro r hr st wt hd lk D
    have e : r = R := by omega
    subst e
    refine ⟨st, wt, hd, lk, D, ?_, ?_⟩
    · intro post h
      exact br_t (nI_le (Nat.le_refl _) (by omega)) h
    · intro post J26 x2 x3 x4 h
      exact br_t (nI_le (Nat.le_refl _) (by omega)) h
  | succ d ih =>
    intro r hr st wt hd lk D
    have hw := D.2.2.2.2.1 r
    by_cases z0 : wt r = 0
    · obtain ⟨st', wt', hd', lk', D', gX, gY⟩ := ih (r + 1) (by omega) st wt hd lk D
      refine ⟨st', wt', hd', lk', D', ?_, ?_⟩
      · intro post h
        have p := gX post h
        generalize hn : d + 1 = n at p ⊢
        simp only [wX_countDownCancels_2]
        simp (disch := omega) only [nI_clamp, ri_in, ri_n_ap, nI_leI, ri_ge0, nI_1]
        exact br_f (by omega) ⟨by omega, br_t (by omega) (nm_e p)⟩
      · intro post J26 x2 x3 x4 h
        have p := gY post J26 x2 x3 x4 h
        generalize hn : d + 1 = n at p ⊢
        simp only [wY_tick_35]
        simp (disch := omega) only [nI_clamp, ri_in, ri_n_ap, nI_leI, ri_ge1, ri_eq1, nI_1]
        exact br_f (by omega) ⟨by omega, br_f (by omega) ⟨by omega, br_t (by omega) (nm_e p)⟩⟩
    · have hs := D.2.2.2.2.2.1 r z0
      have hu := ri_wtun D z0
      by_cases z1 : wt r = 1
      · obtain ⟨st', wt', hd', lk', D', gX, gY⟩ := ih (r + 1) (by omega) _ _ _ _ (ri_D_rel D hu)
        refine ⟨st', wt', hd', lk', D', ?_, ?_⟩
        · intro post h
          have p := gX post h
          generalize hn : d + 1 = n at p ⊢
          simp only [wX_countDownCancels_2]
          simp (disch := omega) only [nI_clamp, ri_in, ri_n_ap, nI_leI, ri_ge0, ri_sub1, ri_upd_n]
          refine br_f (by omega) ⟨by omega, br_f (by omega) ⟨by omega, by omega, nm_e ?_⟩⟩
          simp (disch := omega) only [ri_n_ap, ri_us]
          rw [show wt r - 1 = 0 by omega]
          exact ⟨by omega, br_t rfl (rx_relD (by omega) HR (ri_D_wt D hs hu (by omega)) (nm_r (nI_1 _) p))⟩
        · intro post J26 x2 x3 x4 h
          have p := gY post J26 x2 x3 x4 h
          generalize hn : d + 1 = n at p ⊢
          simp only [wY_tick_35]
          simp (disch := omega) only [nI_clamp, ri_in, ri_n_ap, nI_leI, ri_eq1]
          exact br_f (by omega) ⟨by omega, br_t z1 (ry_rel (by omega) D.2.2.1 (nm_r (nI_1 _) p))⟩
      · obtain ⟨st', wt', hd', lk', D', gX, gY⟩ := ih (r + 1) (by omega) _ _ _ _ (ri_D_wt D hs hu (show wt r - 1 ≤ 3 by omega))
        refine ⟨st', wt', hd', lk', D', ?_, ?_⟩
        · intro post h
          have p := gX post h
          generalize hn : d + 1 = n at p ⊢
          simp only [wX_countDownCancels_2]
          simp (disch := omega) only [nI_clamp, ri_in, ri_n_ap, nI_leI, ri_ge0, ri_sub1, ri_upd_n]
          refine br_f (by omega) ⟨by omega, br_f (by omega) ⟨by omega, by omega, nm_e ?_⟩⟩
          simp (disch := omega) only [ri_n_ap, ri_us, ri_eq0]
          exact ⟨by omega, br_f (by omega) (nm_r (nI_1 _) p)⟩
        · intro post J26 x2 x3 x4 h
          have p := gY post J26 x2 x3 x4 h
          generalize hn : d + 1 = n at p ⊢
          simp only [wY_tick_35]
          simp (disch := omega) only [nI_clamp, ri_in, ri_n_ap, nI_leI, ri_ge1, ri_eq1, ri_sub1, ri_upd_n, nI_1]
          exact br_f (by omega) ⟨by omega, br_f z1 ⟨by omega, br_f (by omega) ⟨by omega, by omega, nm_e (nm_e p)⟩⟩⟩
theorem ri_D_off {t x y : Nat} (D : ri_D R rl se st wt hd lk hg un dn) (ht : t < 3) (hx : x ≤ 20) (hy : y ≤ 5) : ri_D R rl se st wt hd lk (ri_u hg t x) (ri_u un t 0) (ri_u dn t y) := by
  obtain ⟨D1, D2, D3, D4, D5, D6, D7, D8, D9, DA, DB⟩ := D
  refine ⟨?_, ?_, D3, ?_, D5, D6, D7, D8, D9, ?_, ?_⟩
  · intro i; unfold ri_u; split
    · omega
    · exact D1 i
  · intro i; unfold ri_u; split
    · omega
    · exact D2 i
  · intro i; unfold ri_u; split
    · omega
    · exact D4 i
  · intro i hi h
    by_cases z : i = t
    · subst z; rw [ri_us] at h; exact absurd rfl h
    · rw [ri_un z] at h; rw [ri_un z, ri_un z, ri_un z]; exact DA i hi h
  · intro i k hi hk h e
    by_cases z : i = t
    · subst z; rw [ri_us] at h; exact absurd rfl h
    · rw [ri_un z] at h e
      by_cases w : k = t
      · subst w; rw [ri_us] at e; exact absurd e h
      · rw [ri_un w] at e; exact DB i k hi hk h e
theorem ri_D_on {t r k : Nat} (D : ri_D R rl se st wt hd lk hg un dn) (ht : t < 3) (hr : r < 16) (SE : ∀ i, se i < 20) (RL : ∀ r, rl r ≤ 5) (hs : st r = true) (hw : wt r = 0) (hu : ∀ i, i < 3 → i ≠ t → un i ≠ r + 1) (hk : k + 1 < rl r) : ri_D R rl se st wt hd lk (ri_u hg t (ri_op (se (5 * r + k)) + 1)) (ri_u un t (r + 1)) (ri_u dn t (k + 1)) := by
  obtain ⟨D1, D2, D3, D4, D5, D6, D7, D8, D9, DA, DB⟩ := D
  have h1 := ri_op_lt (SE (5 * r + k))
  have h2 := RL r
  refine ⟨?_, ?_, D3, ?_, D5, D6, D7, D8, D9, ?_, ?_⟩
  · intro i; unfold ri_u; split
    · omega
    · exact D1 i
  · intro i; unfold ri_u; split
    · omega
    · exact D2 i
  · intro i; unfold ri_u; split
    · omega
    · exact D4 i
  · intro i hi h
    by_cases z : i = t
    · subst z; rw [ri_us, ri_us, ri_us, Nat.add_sub_cancel]
      exact ⟨by omega, hs, hw, by omega, hk, by rw [show 5 * r + (k + 1) - 1 = 5 * r + k by omega]⟩
    · rw [ri_un z] at h; rw [ri_un z, ri_un z, ri_un z]; exact DA i hi h
  · intro i j hi hj h e
    by_cases z : i = t
    · subst z
      by_cases w : j = i
      · exact w.symm
      · rw [ri_us, ri_un w] at e; exact absurd e.symm (hu j hj w)
    · rw [ri_un z] at h e
      by_cases w : j = t
      · subst w; rw [ri_us] at e; exact absurd e (hu i hi z)
      · rw [ri_un w] at e; exact DB i j hi hj h e
theorem ri_D_clr {hd' : Nat → Bool} {lk' : Nat → Nat} (D : ri_D R rl se st wt hd lk hg un dn) (h1 : ∀ k, hd' k = true → hd k = true) (h2 : ∀ s, lk' s = 0 ∨ lk' s = lk s) : ri_D R rl se st wt hd' lk' hg un dn := by
  obtain ⟨D1, D2, D3, D4, D5, D6, D7, D8, D9, DA, DB⟩ := D
  refine ⟨D1, D2, ?_, D4, D5, D6, D7, fun k h => D8 k (h1 k h), ?_, DA, DB⟩
  · intro s
    rcases h2 s with e | e
    · omega
    · rw [e]; exact D3 s
  · intro s hs h
    rcases h2 s with e | e
    · exact absurd e h
    · rw [e] at h ⊢; exact D9 s hs h
/-- the end of a move, from an open step k of route r -/
theorem ri_mvE {t r k : Nat} (HR : ri_R J R rs rl sj se) (D : ri_D R rl se st wt hd lk hg un dn) (ht : t < 3) (hrR : r < R) (hs : st r = true) (hw : wt r = 0) (hu : ∀ i, i < 3 → i ≠ t → un i ≠ r + 1) (hk : k < rl r) :
    ∃ (st' : Nat → Bool) (wt' : Nat → Nat) (hd' : Nat → Bool) (lk' hg' un' dn' : Nat → Nat), ri_D R rl se st' wt' hd' lk' hg' un' dn' ∧
    (∀ post : SX → Prop, post (sX J R fo ft ct ej ps sg rs rl sj se cb st' wt' hd' lk' hg' un' dn') → wX_moveTrain_29 post (nI t) (nI r) (nI J) (nI R) (ri_n fo) (ri_n ft) (ri_n ct) (ri_n ej) (ri_n ps) (ri_b sg) (ri_n rs) (ri_n rl) (ri_n sj) (ri_n se) cb (ri_b st) (ri_n wt) (ri_b hd) (ri_x lk) (ri_x hg) (ri_x (ri_u un t (r + 1))) (ri_n (ri_u dn t k))) ∧
    (∀ post : Int32 → SY → Prop, post 1 (sY J R fo ft sg ps rs rl sj se st' wt' hd' lk' hg' un' dn' rv mt nx) → wY_move_105 post (nI t) (nI r) (nI k) (nI J) (nI R) (ri_n fo) (ri_n ft) (ri_b sg) (ri_n ps) (ri_n rs) (ri_n rl) (ri_n sj) (ri_n se) (ri_b st) (ri_n wt) (ri_b hd) (ri_x lk) (ri_y hg) (ri_y (ri_u un t (r + 1))) (ri_n (ri_u dn t k)) rv mt nx) := by
  have HR' := HR
  obtain ⟨hR, RS, RL, SJ, SE, R1, R2⟩ := HR'
  have h1 := RL r
  have h2 := SE (5 * r + k)
  have h3 := ri_op_lt h2
  by_cases z : k + 1 = rl r
  · have D0 := ri_D_off (x := ri_op (se (5 * r + k)) + 1) (y := k + 1) D ht (by omega) (by omega)
    have hu0 : ∀ i, i < 3 → ri_u un t 0 i ≠ r + 1 := by
      intro i hi
      by_cases y : i = t
      · subst y; rw [ri_us]; omega
      · rw [ri_un y]; exact hu i hi y
    refine ⟨_, _, _, _, _, _, _, ri_D_rel D0 hu0, ?_, ?_⟩
    · intro post h
      rw [ri_ui hw] at h
      simp only [wX_moveTrain_29]
      simp (disch := omega) only [nI_clamp, ri_in, ri_n_ap, ri_us, ri_mul5, nI_add, ri_op_x, ri_upd_xs, nI_1, ri_upd_n, ri_uu2]
      refine ⟨by omega, by omega, by omega, nm_e ⟨by omega, by omega, nm_e ?_⟩⟩
      simp (disch := omega) only [ri_n_ap, ri_us, nI_ltI, ri_upd_x0, ri_uu2]
      exact ⟨by omega, by omega, br_f (by omega) ⟨by omega, nm_e (rx_relD (by omega) HR D0 h)⟩⟩
    · intro post h
      simp only [wY_move_105]
      simp (disch := omega) only [nI_clamp, ri_in, ri_n_ap, ri_us, ri_mul5', nI_add]
      refine ⟨by omega, ?_⟩
      simp only [wpY_opposite]
      simp (disch := omega) only [nI_clamp, ri_in, ri_n_ap, ri_us, ri_op_x, ri_upd_ys, nI_1, ri_upd_n, ri_uu2]
      refine ⟨by omega, nm_e ⟨by omega, by omega, nm_e ?_⟩⟩
      simp (disch := omega) only [ri_n_ap, ri_us, nI_eq, ri_upd_y0, ri_uu2]
      exact ⟨by omega, by omega, br_t z ⟨by omega, nm_e (ry_rel (by omega) D.2.2.1 h)⟩⟩
  · refine ⟨_, _, _, _, _, _, _, ri_D_on D ht (by omega) SE RL hs hw hu (show k + 1 < rl r by omega), ?_, ?_⟩
    · intro post h
      simp only [wX_moveTrain_29]
      simp (disch := omega) only [nI_clamp, ri_in, ri_n_ap, ri_us, ri_mul5, nI_add, ri_op_x, ri_upd_xs, nI_1, ri_upd_n, ri_uu2]
      refine ⟨by omega, by omega, by omega, nm_e ⟨by omega, by omega, nm_e ?_⟩⟩
      simp (disch := omega) only [ri_n_ap, ri_us, nI_ltI, ri_upd_x0, ri_uu2]
      exact ⟨by omega, by omega, br_t (by omega) h⟩
    · intro post h
      simp only [wY_move_105]
      simp (disch := omega) only [nI_clamp, ri_in, ri_n_ap, ri_us, ri_mul5', nI_add]
      refine ⟨by omega, ?_⟩
      simp only [wpY_opposite]
      simp (disch := omega) only [nI_clamp, ri_in, ri_n_ap, ri_us, ri_op_x, ri_upd_ys, nI_1, ri_upd_n, ri_uu2]
      refine ⟨by omega, nm_e ⟨by omega, by omega, nm_e ?_⟩⟩
      simp (disch := omega) only [ri_n_ap, ri_us, nI_eq, ri_upd_y0, ri_uu2]
      exact ⟨by omega, by omega, br_f z h⟩
end
