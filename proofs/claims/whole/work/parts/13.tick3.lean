section
variable {J R : Nat} {fo ft ct ej ps : Nat → Nat} {sg : Nat → Bool} {rs rl sj se : Nat → Nat} {cb : Nat → Int32} {st : Nat → Bool} {wt : Nat → Nat} {hd : Nat → Bool} {lk hg un dn : Nat → Nat} {rv mt nx : Nat → Int32}
theorem ri_mvs (HR : ri_R J R rs rl sj se) : ∀ d t, t + d = 3 → ∀ (st : Nat → Bool) (wt : Nat → Nat) (hd : Nat → Bool) (lk hg un dn : Nat → Nat), ri_D R rl se st wt hd lk hg un dn →
    ∃ (q : Nat) (st' : Nat → Bool) (wt' : Nat → Nat) (hd' : Nat → Bool) (lk' hg' un' dn' : Nat → Nat), ri_D R rl se st' wt' hd' lk' hg' un' dn' ∧
    (∀ (post : Int32 → SX → Prop) (p : Nat), post (nI (p + q)) (sX J R fo ft ct ej ps sg rs rl sj se cb st' wt' hd' lk' hg' un' dn') → wX_moveTrains_4 post (d + 1) (nI p) (nI t) (nI J) (nI R) (ri_n fo) (ri_n ft) (ri_n ct) (ri_n ej) (ri_n ps) (ri_b sg) (ri_n rs) (ri_n rl) (ri_n sj) (ri_n se) cb (ri_b st) (ri_n wt) (ri_b hd) (ri_x lk) (ri_x hg) (ri_x un) (ri_n dn)) ∧
    (∀ (post : Int32 → SY → Prop) (J26 : Int32 → Int32 → Int32 → Int32 → (Nat → Int32) → (Nat → Int32) → (Nat → Int32) → (Nat → Int32) → (Nat → Int32) → (Nat → Int32) → (Nat → Int32) → (Nat → Int32) → (Nat → Int32) → (Nat → Int32) → (Nat → Int32) → (Nat → Int32) → (Nat → Int32) → (Nat → Int32) → (Nat → Int32) → (Nat → Int32) → (Nat → Int32) → (Nat → Int32) → Prop) (x2 : Int32) (x4 p : Nat), J26 (nI (p + q)) (nI (x4 + 1)) (nI J) (nI R) (ri_n fo) (ri_n ft) (ri_b sg) (ri_n ps) (ri_n rs) (ri_n rl) (ri_n sj) (ri_n se) (ri_b st') (ri_n wt') (ri_b hd') (ri_x lk') (ri_y hg') (ri_y un') (ri_n dn') rv mt nx → wY_tick_95 post J26 x2 (nI x4) (d + 1) (nI p) (nI t) (nI J) (nI R) (ri_n fo) (ri_n ft) (ri_b sg) (ri_n ps) (ri_n rs) (ri_n rl) (ri_n sj) (ri_n se) (ri_b st) (ri_n wt) (ri_b hd) (ri_x lk) (ri_y hg) (ri_y un) (ri_n dn) rv mt nx) := by
  intro d
  induction d with
  | zero =>
    intro t ht st wt hd lk hg un dn D
    have e : t = 3 := by omega
    subst e
    refine ⟨0, st, wt, hd, lk, hg, un, dn, D, ?_, ?_⟩
    · intro post p h
      exact br_t (nI_le (a := 3) (b := 3) (by omega) (by omega)) h
    · intro post J26 x2 x4 p h
      exact br_t (nI_le (a := 3) (b := 3) (by omega) (by omega)) (nm_r (nI_1 _) h)
  | succ d ih =>
    intro t ht st wt hd lk hg un dn D
    obtain ⟨mv, st1, wt1, hd1, lk1, hg1, un1, dn1, D1, gX, gY⟩ := ri_mv (fo := fo) (ft := ft) (ct := ct) (ej := ej) (ps := ps) (sg := sg) (cb := cb) (rv := rv) (mt := mt) (nx := nx) HR D (show t < 3 by omega)
    obtain ⟨q, st2, wt2, hd2, lk2, hg2, un2, dn2, D2, qX, qY⟩ := ih (t + 1) (by omega) st1 wt1 hd1 lk1 hg1 un1 dn1 D1
    refine ⟨mv.toNat + q, st2, wt2, hd2, lk2, hg2, un2, dn2, D2, ?_, ?_⟩
    · intro post p h
      rw [← Nat.add_assoc] at h
      exact gX post (d + 1) p (qX post _ h)
    · intro post J26 x2 x4 p h
      rw [← Nat.add_assoc] at h
      have w := qY post J26 x2 x4 (p + mv.toNat) h
      generalize hn : d + 1 = n at w ⊢
      simp only [wY_tick_95]
      refine br_f (nI_ge (b := 3) (by omega) (by omega)) (gY _ ?_)
      cases mv with
      | false => exact br_t rfl (nm_r (nI_1 _) w)
      | true => exact br_f (by decide) (nm_r (nI_1 _) (nm_r (nI_1 _) w))
theorem ri_tck {v : Int32} {c : Nat} (HR : ri_R J R rs rl sj se) (hc : c ≤ 20) (hlt : ∀ i, i < c → ¬ v ≤ nI i) (hend : v ≤ nI c ∨ c = 20) : ∀ d i, i + d = c → ∀ (st : Nat → Bool) (wt : Nat → Nat) (hd : Nat → Bool) (lk hg un dn : Nat → Nat) (p : Nat), ri_D R rl se st wt hd lk hg un dn →
    ∃ (q : Nat) (st' : Nat → Bool) (wt' : Nat → Nat) (hd' : Nat → Bool) (lk' hg' un' dn' : Nat → Nat), ri_D R rl se st' wt' hd' lk' hg' un' dn' ∧
    (∀ (post : Int32 → SX → Prop), post (nI q) (sX J R fo ft ct ej ps sg rs rl sj se cb st' wt' hd' lk' hg' un' dn') → wX_tick_4 post v (d + 1) (nI p) (nI i) (nI J) (nI R) (ri_n fo) (ri_n ft) (ri_n ct) (ri_n ej) (ri_n ps) (ri_b sg) (ri_n rs) (ri_n rl) (ri_n sj) (ri_n se) cb (ri_b st) (ri_n wt) (ri_b hd) (ri_x lk) (ri_x hg) (ri_x un) (ri_n dn)) ∧
    (∀ (post : Int32 → SY → Prop), post (nI q) (sY J R fo ft sg ps rs rl sj se st' wt' hd' lk' hg' un' dn' rv mt nx) → wY_tick_26 post (nI c) (d + 1) (nI p) (nI i) (nI J) (nI R) (ri_n fo) (ri_n ft) (ri_b sg) (ri_n ps) (ri_n rs) (ri_n rl) (ri_n sj) (ri_n se) (ri_b st) (ri_n wt) (ri_b hd) (ri_x lk) (ri_y hg) (ri_y un) (ri_n dn) rv mt nx) := by
  intro d
  induction d with
  | zero =>
    intro i hi st wt hd lk hg un dn p D
    have e : i = c := by omega
    subst e
    refine ⟨p, st, wt, hd, lk, hg, un, dn, D, ?_, ?_⟩
    · intro post h
      simp only [wX_tick_4]
      rcases hend with z | z
      · exact br_t z h
      · exact br_c (fun _ => h) (fun _ => br_t (by rw [z]; exact nI_le (a := 20) (b := 20) (by omega) (by omega)) h)
    · intro post h
      exact br_t (nI_le (Nat.le_refl _) (by omega)) h
  | succ d ih =>
    intro i hi st wt hd lk hg un dn p D
    obtain ⟨st1, wt1, hd1, lk1, D1, cX, cY⟩ := ri_cd (fo := fo) (ft := ft) (ct := ct) (ej := ej) (ps := ps) (sg := sg) (cb := cb) (rv := rv) (mt := mt) (nx := nx) HR R 0 (by omega) st wt hd lk D
    obtain ⟨q1, st2, wt2, hd2, lk2, hg2, un2, dn2, D2, mX, mY⟩ := ri_mvs (fo := fo) (ft := ft) (ct := ct) (ej := ej) (ps := ps) (sg := sg) (cb := cb) (rv := rv) (mt := mt) (nx := nx) HR 3 0 (by omega) st1 wt1 hd1 lk1 hg un dn D1
    obtain ⟨q, st3, wt3, hd3, lk3, hg3, un3, dn3, D3, tX, tY⟩ := ih (i + 1) (by omega) st2 wt2 hd2 lk2 hg2 un2 dn2 (p + q1) D2
    refine ⟨q, st3, wt3, hd3, lk3, hg3, un3, dn3, D3, ?_, ?_⟩
    · intro post h
      have w := tX post h
      generalize hn : d + 1 = n at w ⊢
      simp only [wX_tick_4]
      refine br_f (hlt i (by omega)) (br_f (nI_ge (b := 20) (by omega) (by omega)) ?_)
      refine ⟨_, cX _ ⟨_, mX _ 0 (nm_r (e' := nI (p + q1)) ?_ (nm_r (nI_1 _) w))⟩⟩
      rw [nI_add, Nat.zero_add]
    · intro post h
      have w := tY post h
      generalize hn : d + 1 = n at w ⊢
      simp only [wY_tick_26]
      exact br_f (nI_ge (by omega) (by omega)) ⟨_, cY _ _ _ _ _ ⟨_, mY _ _ _ _ _ w⟩⟩
/-! cancel -/
theorem rx_cancel {post : Int32 → SX → Prop} {r : Nat} (hr : r < R) (HR : ri_R J R rs rl sj se) (D : ri_D R rl se st wt hd lk hg un dn) (h0 : (st r = false ∨ wt r ≠ 0 ∨ ri_trav un r = true) → post 0 (sX J R fo ft ct ej ps sg rs rl sj se cb st wt hd lk hg un dn)) (h1 : st r = true → wt r = 0 → ri_trav un r = false → ri_hfor hg (rs r) = true → post 1 (sX J R fo ft ct ej ps sg rs rl sj se cb st (ri_u wt r 3) hd lk hg un dn)) (h2 : st r = true → wt r = 0 → ri_trav un r = false → ri_hfor hg (rs r) = false → post 1 (sX J R fo ft ct ej ps sg rs rl sj se cb (ri_u st r false) wt (ri_hdR hd r) (ri_lkR lk r) hg un dn)) : wpX_cancel post (sX J R fo ft ct ej ps sg rs rl sj se cb st wt hd lk hg un dn) (nI r) := by
  have hR := HR.1
  have hw := D.2.2.2.2.1 r
  have hrs := HR.2.1 r
  simp only [wpX_cancel]
  refine rx_isR1 hR hr (br_f (by decide) ?_)
  simp (disch := omega) only [nI_clamp, ri_in, ri_b_ap, ri_B0, ri_n_ap, ri_lt0]
  refine ⟨by omega, br_c (fun z => h0 (Or.inl z)) (fun z => ⟨by omega, br_c (fun y => h0 (Or.inr (Or.inl (by omega)))) (fun y => rx_trav (by omega) D.2.1 ?_)⟩)⟩
  rw [Bool.not_eq_false] at z
  simp only [ri_B0]
  refine br_c (fun w => ⟨by omega, rx_hfor (by omega) D.1 ?_⟩) (fun w => h0 (Or.inr (Or.inr ?_)))
  · simp only [ri_B0]
    refine br_c (fun x => rx_relD (by omega) HR D (h2 z (by omega) w x)) (fun x => ⟨by omega, ?_⟩)
    rw [Bool.not_eq_false] at x
    rw [ri_upd_n3]
    exact nm_e (h1 z (by omega) w x)
  · rw [Bool.not_eq_false] at w; exact w
theorem ry_cancel {post : Int32 → SY → Prop} {r : Nat} (hr : r < R) (HR : ri_R J R rs rl sj se) (D : ri_D R rl se st wt hd lk hg un dn) (h0 : (st r = false ∨ wt r ≠ 0 ∨ ri_trav un r = true) → post 0 (sY J R fo ft sg ps rs rl sj se st wt hd lk hg un dn rv mt nx)) (h1 : st r = true → wt r = 0 → ri_trav un r = false → ri_hfor hg (rs r) = true → post 1 (sY J R fo ft sg ps rs rl sj se st (ri_u wt r 3) hd lk hg un dn rv mt nx)) (h2 : st r = true → wt r = 0 → ri_trav un r = false → ri_hfor hg (rs r) = false → post 1 (sY J R fo ft sg ps rs rl sj se (ri_u st r false) (ri_u wt r 0) (ri_hdR hd r) (ri_lkR lk r) hg un dn rv mt nx)) : wpY_cancel post (sY J R fo ft sg ps rs rl sj se st wt hd lk hg un dn rv mt nx) (nI r) := by
  have hR := HR.1
  have hw := D.2.2.2.2.1 r
  have hrs := HR.2.1 r
  simp only [wpY_cancel]
  refine ry_isR1 hR hr (br_f (by decide) ?_)
  simp (disch := omega) only [nI_clamp, ri_in, ri_b_ap, ri_B0, ri_n_ap, ri_ge0]
  refine ⟨by omega, br_c (fun z => h0 (Or.inl z)) (fun z => ry_used (by omega) D.1 D.2.1 ?_)⟩
  rw [Bool.not_eq_false] at z
  rw [ri_usedt D]
  simp only [ri_B0]
  refine br_c (fun w => ⟨by omega, br_c (fun y => ?_) (fun y => h0 (Or.inr (Or.inl (by omega))))⟩) (fun w => h0 (Or.inr (Or.inr ?_)))
  · refine ri_fo (fun n i => wY_cancel_40 post (nI r) (nI J) (nI R) (ri_n fo) (ri_n ft) (ri_b sg) (ri_n ps) (ri_n rs) (ri_n rl) (ri_n sj) (ri_n se) (ri_b st) (ri_n wt) (ri_b hd) (ri_x lk) (ri_y hg) (ri_y un) (ri_n dn) rv mt nx n (ri_B (ri_ba (fun t => decide (hg t = rs r + 1)) i)) (nI i)) 3 ?_ ?_
    · intro n
      simp only [wY_cancel_40]
      refine br_t (nI_le (a := 3) (b := 3) (by omega) (by omega)) ?_
      simp (disch := omega) only [ri_B0, nI_clamp, ri_in, ri_upd_n3]
      refine br_c (fun x => ry_rel (by omega) D.2.2.1 (h2 z (by omega) w x)) (fun x => ⟨by omega, nm_e (h1 z (by omega) w ?_)⟩)
      rw [Bool.not_eq_false] at x; exact x
    · intro n i hi p
      have := D.1 i
      simp only [wY_cancel_40]
      simp (disch := omega) only [nI_clamp, ri_in, ri_y_ap, ri_n_ap, ri_cy_e, nI_1, ri_le3]
      refine br_f (by omega) ⟨by omega, by omega, br_c (fun x => ?_) (fun x => ?_)⟩
      · simp only [ri_ba, x, decide_true, Bool.or_true] at p
        exact nm_e p
      · simp only [ri_ba, x, decide_false, Bool.or_false] at p
        exact nm_e p
  · rw [Bool.not_eq_false] at w; exact w
/-! set -/
def ri_pl (ct ej ps : Nat → Nat) (a j : Nat) : Nat → Nat := if ct a = 2 then ri_u ps a (if ej (2 * a) = j then 0 else 1) else ps
theorem ri_pl_le {a j : Nat} (PS : ∀ a, ps a ≤ 1) : ∀ x, ri_pl ct ej ps a j x ≤ 1 := by
  intro x
  unfold ri_pl
  split
  · unfold ri_u
    split
    · split <;> omega
    · exact PS x
  · exact PS x
def ri_psS (fo ft ct ej sj : Nat → Nat) (r : Nat) (ps : Nat → Nat) : Nat → Nat → Nat
  | 0 => ps
  | i + 1 => ri_pl ct ej (ri_pl ct ej (ri_psS fo ft ct ej sj r ps i) (fo (sj (5 * r + i))) (sj (5 * r + i))) (ft (sj (5 * r + i))) (sj (5 * r + i))
def ri_hdS (r : Nat) (hd : Nat → Bool) : Nat → Nat → Bool
  | 0 => hd
  | i + 1 => ri_u (ri_hdS r hd i) (5 * r + i) true
def ri_lkS (se : Nat → Nat) (r : Nat) (lk : Nat → Nat) : Nat → Nat → Nat
  | 0 => lk
  | i + 1 => ri_u (ri_lkS se r lk i) (se (5 * r + i) / 2) (r + 1)
theorem ri_psS_le {r : Nat} (PS : ∀ a, ps a ≤ 1) : ∀ i x, ri_psS fo ft ct ej sj r ps i x ≤ 1 := by
  intro i
  induction i with
  | zero => exact PS
  | succ i ih => exact ri_pl_le (ri_pl_le ih)
theorem ri_hdS_i {r : Nat} : ∀ i k, ri_hdS r hd i k = true → (5 * r ≤ k ∧ k < 5 * r + i) ∨ hd k = true := by
  intro i
  induction i with
  | zero => intro k h; exact Or.inr h
  | succ i ih =>
    intro k h
    by_cases z : k = 5 * r + i
    · exact Or.inl (by omega)
    · rw [ri_hdS, ri_un z] at h
      rcases ih k h with y | y
      · exact Or.inl (by omega)
      · exact Or.inr y
theorem ri_lkS_i {r : Nat} : ∀ i s, (ri_lkS se r lk i s = r + 1 ∧ ∃ k, k < i ∧ se (5 * r + k) / 2 = s) ∨ ri_lkS se r lk i s = lk s := by
  intro i
  induction i with
  | zero => intro s; exact Or.inr rfl
  | succ i ih =>
    intro s
    by_cases z : s = se (5 * r + i) / 2
    · subst z
      left
      exact ⟨ri_us, i, by omega, rfl⟩
    · rw [ri_lkS, ri_un z]
      rcases ih s with ⟨y, k, k1, k2⟩ | y
      · exact Or.inl ⟨y, k, by omega, k2⟩
      · exact Or.inr y
theorem ri_D_set {r : Nat} (D : ri_D R rl se st wt hd lk hg un dn) (hr : r < R) (hR : R ≤ 16) (RL : ∀ r, rl r ≤ 5) (hs : st r = false) : ri_D R rl se (ri_u st r true) wt (ri_hdS r hd (rl r)) (ri_lkS se r lk (rl r)) hg un dn := by
  obtain ⟨D1, D2, D3, D4, D5, D6, D7, D8, D9, DA, DB⟩ := D
  have hl := RL r
  have keep : ∀ x, st x = true → ri_u st r true x = true := by
    intro x h
    unfold ri_u; split
    · rfl
    · exact h
  refine ⟨D1, D2, ?_, D4, D5, fun x h => keep x (D6 x h), ?_, ?_, ?_, ?_, DB⟩
  · intro s
    rcases ri_lkS_i (se := se) (lk := lk) (r := r) (rl r) s with ⟨y, _⟩ | y
    · omega
    · rw [y]; exact D3 s
  · intro x h
    by_cases z : x = r
    · omega
    · rw [ri_un z] at h; exact D7 x h
  · intro k h
    rcases ri_hdS_i _ k h with y | y
    · rw [show k / 5 = r by omega]
      exact ⟨ri_us, by omega⟩
    · exact ⟨keep _ (D8 k y).1, (D8 k y).2⟩
  · intro s hs2 h
    rcases ri_lkS_i (se := se) (lk := lk) (r := r) (rl r) s with ⟨y, k, k1, k2⟩ | y
    · rw [y, Nat.add_sub_cancel]
      exact ⟨ri_us, k, k1, k2⟩
    · rw [y] at h ⊢
      exact ⟨keep _ (D9 s hs2 h).1, (D9 s hs2 h).2⟩
  · intro t ht h
    obtain ⟨a1, a2, a3⟩ := DA t ht h
    exact ⟨a1, keep _ a2, a3⟩
theorem rx_place {post : SX → Prop} {a j : Nat} (ha : a < 20) (hj : j < 12) (CT : ∀ a, ct a ≤ 2) (EJ : ∀ i, ej i < 12) (h : post (sX J R fo ft ct ej (ri_pl ct ej ps a j) sg rs rl sj se cb st wt hd lk hg un dn)) : wpX_placePoint post (sX J R fo ft ct ej ps sg rs rl sj se cb st wt hd lk hg un dn) (nI a) (nI j) := by
  have := EJ (2 * a)
  simp only [wpX_placePoint]
  refine rx_point ha CT ?_
  simp (disch := omega) only [ri_B0, decide_eq_false_iff_not, ri_mul2, nI_clamp, ri_in, ri_n_ap, nI_eq, ri_upd_n0, ri_upd_n1]
  unfold ri_pl at h
  refine br_c (fun z => ?_) (fun z => ⟨by omega, br_c (fun y => ⟨ha, nm_e ?_⟩) (fun y => ⟨ha, nm_e ?_⟩)⟩)
  · rw [if_neg z] at h; exact h
  · rw [if_pos (Classical.not_not.mp z), if_pos y] at h; exact h
  · rw [if_pos (Classical.not_not.mp z), if_neg y] at h; exact h
theorem rx_setL {post : Int32 → SX → Prop} {r : Nat} (hr : r < 16) (CT : ∀ a, ct a ≤ 2) (EJ : ∀ i, ej i < 12) (FO : ∀ j, fo j < 20) (FT : ∀ j, ft j < 20) (RL : ∀ r, rl r ≤ 5) (SJ : ∀ i, sj i < 12) (SE : ∀ i, se i < 20) (h : post 1 (sX J R fo ft ct ej (ri_psS fo ft ct ej sj r ps (rl r)) sg rs rl sj se cb st wt (ri_hdS r hd (rl r)) (ri_lkS se r lk (rl r)) hg un dn)) : ∃ n, wX_set_27 post (nI r) n 0 (nI J) (nI R) (ri_n fo) (ri_n ft) (ri_n ct) (ri_n ej) (ri_n ps) (ri_b sg) (ri_n rs) (ri_n rl) (ri_n sj) (ri_n se) cb (ri_b st) (ri_n wt) (ri_b hd) (ri_x lk) (ri_x hg) (ri_x un) (ri_n dn) := by
  have hl := RL r
  refine ri_fo (fun n i => wX_set_27 post (nI r) n (nI i) (nI J) (nI R) (ri_n fo) (ri_n ft) (ri_n ct) (ri_n ej) (ri_n (ri_psS fo ft ct ej sj r ps i)) (ri_b sg) (ri_n rs) (ri_n rl) (ri_n sj) (ri_n se) cb (ri_b st) (ri_n wt) (ri_b (ri_hdS r hd i)) (ri_x (ri_lkS se r lk i)) (ri_x hg) (ri_x un) (ri_n dn)) (rl r) ?_ ?_
  · intro n
    simp only [wX_set_27]
    simp (disch := omega) only [nI_clamp, ri_in, ri_n_ap, nI_leI]
    exact ⟨hr, br_t (Nat.le_refl _) h⟩
  · intro n i hi p
    have h1 := SJ (5 * r + i)
    have h2 := SE (5 * r + i)
    simp only [wX_set_27]
    simp (disch := omega) only [nI_clamp, ri_in, ri_n_ap, nI_leI, ri_mul5, nI_add]
    refine ⟨hr, br_f (by omega) (nm_e ?_)⟩
    simp (disch := omega) only [nI_clamp, ri_in, ri_n_ap]
    refine ⟨by omega, nm_e ⟨by omega, by decide, ?_⟩⟩
    simp (disch := omega) only [nI_clamp, ri_in, ri_n_ap, ri_div2, ri_upd_xs, ri_nar1, ri_upd_b]
    refine ⟨by omega, nm_e ⟨by omega, nm_e ⟨h1, ?_⟩⟩⟩
    refine rx_place (FO _) h1 CT EJ ?_
    simp (disch := omega) only [nI_clamp, ri_in, ri_n_ap]
    refine ⟨h1, rx_place (FT _) h1 CT EJ (nm_r (nI_1 _) p)⟩
theorem ry_setI {post : Int32 → SY → Prop} {J36 : Int32 → (Nat → Int32) → (Nat → Int32) → (Nat → Int32) → (Nat → Int32) → (Nat → Int32) → (Nat → Int32) → (Nat → Int32) → (Nat → Int32) → (Nat → Int32) → (Nat → Int32) → (Nat → Int32) → (Nat → Int32) → (Nat → Int32) → (Nat → Int32) → (Nat → Int32) → (Nat → Int32) → (Nat → Int32) → (Nat → Int32) → Prop} {r k : Nat} (hk : k < 80) (HJ : ri_J J fo ft ct ej) (SJ : ∀ i, sj i < 12) (h : J36 (nI (k + 1)) (ri_n fo) (ri_n ft) (ri_b sg) (ri_n (ri_pl ct ej (ri_pl ct ej ps (fo (sj k)) (sj k)) (ft (sj k)) (sj k))) (ri_n rs) (ri_n rl) (ri_n sj) (ri_n se) (ri_b st) (ri_n wt) (ri_b hd) (ri_x lk) (ri_y hg) (ri_y un) (ri_n dn) rv mt nx) : ∃ n, wY_set_73 post J36 (nI r) (nI k) (nI J) (nI R) n 0 (ri_n fo) (ri_n ft) (ri_b sg) (ri_n ps) (ri_n rs) (ri_n rl) (ri_n sj) (ri_n se) (ri_b st) (ri_n wt) (ri_b hd) (ri_x lk) (ri_y hg) (ri_y un) (ri_n dn) rv mt nx := by
  have h1 := SJ k
  have key : ∀ (n z : Nat) (ps : Nat → Nat), z < 2 → wY_set_73 post J36 (nI r) (nI k) (nI J) (nI R) n (nI (z + 1)) (ri_n fo) (ri_n ft) (ri_b sg) (ri_n (ri_pl ct ej ps (ri_eo fo ft (sj k) z) (sj k))) (ri_n rs) (ri_n rl) (ri_n sj) (ri_n se) (ri_b st) (ri_n wt) (ri_b hd) (ri_x lk) (ri_y hg) (ri_y un) (ri_n dn) rv mt nx → wY_set_73 post J36 (nI r) (nI k) (nI J) (nI R) (n + 1) (nI z) (ri_n fo) (ri_n ft) (ri_b sg) (ri_n ps) (ri_n rs) (ri_n rl) (ri_n sj) (ri_n se) (ri_b st) (ri_n wt) (ri_b hd) (ri_x lk) (ri_y hg) (ri_y un) (ri_n dn) rv mt nx := by
    intro n z ps hz p
    have h2 := ri_nd_le (ct := ct) (ej := ej) (j := sj k) (a := ri_eo fo ft (sj k) z)
    have h3 := ri_eo_lt (j := sj k) (z := z) HJ.2.1 HJ.2.2.1
    have h4 := HJ.2.2.2.1 (ri_eo fo ft (sj k) z)
    simp only [wY_set_73]
    simp (disch := omega) only [nI_clamp, ri_in, ri_n_ap, ri_le2]
    refine br_f (by omega) ⟨hk, ry_nd h1 (by omega) HJ ?_⟩
    simp (disch := omega) only [ri_cy_n, nI_1]
    unfold ri_pl at p
    refine br_c (fun y => ?_) (fun y => ⟨hk, ry_eo h1 (by omega) ?_⟩)
    · rw [if_neg (by unfold ri_nd at y; split at y; · omega
                     · split at y <;> omega)] at p
      exact nm_e p
    · have hc2 : ct (ri_eo fo ft (sj k) z) = 2 := by
        unfold ri_nd at y; split at y
        · exact absurd rfl y
        · omega
      rw [if_pos hc2] at p
      have e : ri_cy (ri_nd ct ej (sj k) (ri_eo fo ft (sj k) z)) = nI (if ej (2 * ri_eo fo ft (sj k) z) = sj k then 0 else 1) := by
        unfold ri_nd
        rw [if_neg (by omega)]
        split <;> rfl
      rw [e]
      simp (disch := omega) only [nI_clamp, ri_in, ri_upd_n]
      exact ⟨h3, nm_e (nm_e p)⟩
  refine ⟨3, key 2 0 ps (by omega) (key 1 1 _ (by omega) ?_)⟩
  exact br_t (nI_le (a := 2) (b := 2) (by omega) (by omega)) (nm_r (nI_1 _) h)
theorem ry_setL {post : Int32 → SY → Prop} {r : Nat} (hr : r < 16) (HJ : ri_J J fo ft ct ej) (RL : ∀ r, rl r ≤ 5) (SJ : ∀ i, sj i < 12) (SE : ∀ i, se i < 20) (h : post 1 (sY J R fo ft sg (ri_psS fo ft ct ej sj r ps (rl r)) rs rl sj se st wt (ri_hdS r hd (rl r)) (ri_lkS se r lk (rl r)) hg un dn rv mt nx)) : ∃ n, wY_set_36 post (nI r) (nI J) (nI R) n (nI (5 * r)) (ri_n fo) (ri_n ft) (ri_b sg) (ri_n ps) (ri_n rs) (ri_n rl) (ri_n sj) (ri_n se) (ri_b st) (ri_n wt) (ri_b hd) (ri_x lk) (ri_y hg) (ri_y un) (ri_n dn) rv mt nx := by
  have hl := RL r
  refine ri_fo (fun n i => wY_set_36 post (nI r) (nI J) (nI R) n (nI (5 * r + i)) (ri_n fo) (ri_n ft) (ri_b sg) (ri_n (ri_psS fo ft ct ej sj r ps i)) (ri_n rs) (ri_n rl) (ri_n sj) (ri_n se) (ri_b st) (ri_n wt) (ri_b (ri_hdS r hd i)) (ri_x (ri_lkS se r lk i)) (ri_y hg) (ri_y un) (ri_n dn) rv mt nx) (rl r) ?_ ?_
  · intro n
    simp only [wY_set_36]
    simp (disch := omega) only [nI_clamp, ri_in, ri_n_ap, nI_leI, ri_mul5', nI_add]
    exact ⟨hr, br_t (Nat.le_refl _) h⟩
  · intro n i hi p
    have h2 := SE (5 * r + i)
    simp only [wY_set_36]
    simp (disch := omega) only [nI_clamp, ri_in, ri_n_ap, nI_leI, ri_mul5', nI_add, ri_div2, ri_upd_xs, ri_nar1, ri_upd_b]
    refine ⟨hr, br_f (by omega) ⟨by omega, nm_e ⟨by omega, by decide, by omega, nm_e (ry_setI (by omega) HJ SJ p)⟩⟩⟩
end
