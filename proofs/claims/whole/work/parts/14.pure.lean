section
variable {J R : Nat} {fo ft ct ej ps : Nat → Nat} {sg : Nat → Bool} {rs rl sj se : Nat → Nat} {cb : Nat → Int32} {st : Nat → Bool} {wt : Nat → Nat} {hd : Nat → Bool} {lk hg un dn : Nat → Nat} {rv mt nx : Nat → Int32}
theorem ri_heldeq {a : Nat} (HR : ri_R J R rs rl sj se) (D : ri_D R rl se st wt hd lk hg un dn) : ri_ba (fun k => hd k && ri_at fo ft a (sj k)) 80 = ri_held R fo ft rl sj hd a := by
  obtain ⟨hR, RS, RL, SJ, SE, R1, R2⟩ := HR
  obtain ⟨D1, D2, D3, D4, D5, D6, D7, D8, D9, DA, DB⟩ := D
  apply ri_beq
  rw [ri_ba_t, ri_held, ri_ba_t]
  constructor
  · rintro ⟨k, hk, h⟩
    have h' := h
    simp only [Bool.and_eq_true] at h'
    obtain ⟨a1, a2⟩ := D8 k h'.1
    refine ⟨k / 5, D7 _ a1, ri_ba_t.mpr ⟨k % 5, a2, ?_⟩⟩
    rw [show 5 * (k / 5) + k % 5 = k by omega]
    exact h
  · rintro ⟨r, hr, h⟩
    obtain ⟨i, hi, h2⟩ := ri_ba_t.mp h
    have := RL r
    exact ⟨5 * r + i, by omega, h2⟩
theorem ri_faeq {a j : Nat} (ha : a < 20) (hj : j < J) (hat : ri_at fo ft a j = true) (HJ : ri_J J fo ft ct ej) (PS : ∀ a, ps a ≤ 1) (HR : ri_R J R rs rl sj se) (D : ri_D R rl se st wt hd lk hg un dn) :
    (decide (ri_nd ct ej j a ≠ 0) && (decide (ri_nd ct ej j a ≠ ps a + 1) && ri_fst fo ft sj hd hg a)) = ri_fa R fo ft ct ej ps rl sj hd hg a j := by
  have hf : ri_fst fo ft sj hd hg a = (ri_occ hg (a / 2) || ri_held R fo ft rl sj hd a) := by
    rw [ri_fst, ri_heldeq HR D]
  obtain ⟨hJ, FO, FT, CT, EJ, -, H1, H2⟩ := HJ
  have hc := CT a
  have hp := PS a
  rw [hf, ri_fa]
  by_cases z : ct a = 2
  · have e1 : ri_nd ct ej j a ≠ 0 := by
      unfold ri_nd; rw [if_neg (by omega)]; split <;> omega
    have e2 : ri_nd ct ej j a = ps a + 1 ↔ ej (2 * a + ps a) = j := by
      have c1 := H1 a ha
      obtain ⟨i0, p1, p2, p3⟩ := ri_cn_x (f := ri_at fo ft a) (k := 0) J (by omega)
      obtain ⟨i1, q1, q2, q3⟩ := ri_cn_x (f := ri_at fo ft a) (k := 1) J (by omega)
      have r0 := H2 a ha i0 p1 p2
      have r1 := H2 a ha i1 q1 q2
      rw [p3, Nat.add_zero] at r0
      rw [q3] at r1
      have rj := H2 a ha j hj hat
      have cj := ri_cn_l hj hat
      unfold ri_nd
      rw [if_neg (by omega)]
      by_cases w : ri_cn (ri_at fo ft a) j = 0
      · rw [w, Nat.add_zero] at rj
        rw [if_pos rj]
        by_cases x : ps a = 0
        · rw [x, Nat.add_zero]; exact ⟨fun _ => rj, fun _ => rfl⟩
        · rw [show ps a = 1 by omega]
          refine ⟨fun y => by omega, fun y => ?_⟩
          rw [r1] at y; rw [y] at q3; omega
      · have w1 : ri_cn (ri_at fo ft a) j = 1 := by omega
        rw [w1] at rj
        have nj : ¬ ej (2 * a) = j := by
          intro y; rw [r0] at y; rw [y] at p3; omega
        rw [if_neg nj]
        by_cases x : ps a = 0
        · rw [x, Nat.add_zero]; exact ⟨fun y => by omega, fun y => absurd y nj⟩
        · rw [show ps a = 1 by omega]; exact ⟨fun _ => rj, fun _ => rfl⟩
    rw [decide_eq_true e1, decide_eq_true z]
    congr 2
    exact decide_eq_decide.mpr (not_congr e2)
  · have e1 : ri_nd ct ej j a = 0 := by
      unfold ri_nd; rw [if_pos (by omega)]
    simp [e1, z]
theorem ri_stkeq {r : Nat} (hr : r < R) (HJ : ri_J J fo ft ct ej) (PS : ∀ a, ps a ≤ 1) (HR : ri_R J R rs rl sj se) (D : ri_D R rl se st wt hd lk hg un dn) : ri_stuck fo ft ct ej ps rl sj hd hg r = ri_nfp R fo ft ct ej ps rl sj hd hg r := by
  refine ri_ba_c (fun i hi => ?_)
  have hj := (HR.2.2.2.2.2.2 r hr i hi).1
  have e1 := ri_faeq (a := fo (sj (5 * r + i))) (j := sj (5 * r + i)) (HJ.2.1 _) hj (by simp [ri_at]) HJ PS HR D
  have e2 := ri_faeq (a := ft (sj (5 * r + i))) (j := sj (5 * r + i)) (HJ.2.2.1 _) hj (by simp [ri_at]) HJ PS HR D
  rw [← e1, ← e2]
  simp only [ri_ba, Bool.false_or, ri_sk, ri_eo]
  rfl
theorem ri_busyeq (HR : ri_R J R rs rl sj se) (D : ri_D R rl se st wt hd lk hg un dn) : ri_busy 16 st hg = ri_busy R st hg := by
  have hR := HR.1
  unfold ri_busy
  congr 1
  apply ri_beq
  rw [ri_ba_t, ri_ba_t]
  constructor
  · rintro ⟨r, _, h⟩; exact ⟨r, D.2.2.2.2.2.2.1 r h, h⟩
  · rintro ⟨r, hr, h⟩; exact ⟨r, by omega, h⟩
theorem ri_D_free {R' : Nat} {rl' se' : Nat → Nat} (D : ri_D R rl se st wt hd lk hg un dn) (hb : ri_busy R st hg = false) : ri_D R' rl' se' st wt hd lk hg un dn := by
  obtain ⟨D1, D2, D3, D4, D5, D6, D7, D8, D9, DA, DB⟩ := D
  simp only [ri_busy, Bool.or_eq_false_iff] at hb
  have hs : ∀ r, st r = true → False := by
    intro r h
    have := ri_ba_f.mp hb.2 r (D7 r h)
    rw [h] at this; exact absurd this (by decide)
  have hh : ∀ t, t < 3 → hg t = 0 := by
    intro t ht
    have := ri_ba_f.mp hb.1 t ht
    simp only [ne_eq, decide_eq_false_iff_not, Classical.not_not] at this
    exact this
  refine ⟨D1, D2, D3, D4, D5, D6, fun r h => (hs r h).elim, fun k h => (hs _ (D8 k h).1).elim, fun s h1 h2 => (hs _ (D9 s h1 h2).1).elim, fun t ht h => absurd (hh t ht) (DA t ht h).1, DB⟩
def ri_dup (fo ft : Nat → Nat) (a b j : Nat) : Bool := (decide (fo j = a) && decide (ft j = b)) || (decide (fo j = b) && decide (ft j = a))
theorem ri_dupeq {a b : Nat} (ha : a < 20) (hab : a ≠ b) (HJ : ri_J J fo ft ct ej) : ri_ba (fun i => decide (ri_far fo ft (ej (2 * a + i)) a = b)) (ct a) = ri_ba (ri_dup fo ft a b) J := by
  have HJ' := HJ
  obtain ⟨hJ, FO, FT, CT, EJ, -, H1, H2⟩ := HJ'
  apply ri_beq
  rw [ri_ba_t, ri_ba_t]
  constructor
  · rintro ⟨i, hi, h⟩
    obtain ⟨h1, h2⟩ := ri_Jk HJ ha hi
    refine ⟨_, h1, ?_⟩
    simp only [decide_eq_true_eq] at h
    unfold ri_far at h
    simp only [ri_at, Bool.or_eq_true, decide_eq_true_eq] at h2
    simp only [ri_dup, Bool.or_eq_true, Bool.and_eq_true, decide_eq_true_eq]
    split at h
    · rename_i w; exact Or.inl ⟨w, h⟩
    · rename_i w; exact Or.inr ⟨h, h2.resolve_left w⟩
  · rintro ⟨j, hj, h⟩
    simp only [ri_dup, Bool.or_eq_true, Bool.and_eq_true, decide_eq_true_eq] at h
    have hat : ri_at fo ft a j = true := by
      simp only [ri_at, Bool.or_eq_true, decide_eq_true_eq]
      rcases h with h | h
      · exact Or.inl h.1
      · exact Or.inr h.2
    have e := H2 a ha j hj hat
    refine ⟨ri_cn (ri_at fo ft a) j, by rw [H1 a ha]; exact ri_cn_l hj hat, ?_⟩
    rw [e]
    simp only [decide_eq_true_eq]
    unfold ri_far
    rcases h with h | h
    · rw [if_pos h.1]; exact h.2
    · rw [if_neg (by omega)]; exact h.1
theorem ri_Jnew {a b : Nat} (ha : a < 20) (hb : b < 20) (hab : a / 2 ≠ b / 2) (hJ12 : J < 12) (ca : ct a < 2) (cb2 : ct b < 2) (HJ : ri_J J fo ft ct ej) : ri_J (J + 1) (ri_u fo J a) (ri_u ft J b) (ri_u (ri_u ct a (ct a + 1)) b (ct b + 1)) (ri_u (ri_u ej (2 * a + ct a) J) (2 * b + ct b) J) := by
  obtain ⟨hJ, FO, FT, CT, EJ, H0, H1, H2⟩ := HJ
  have hne : a ≠ b := by intro z; rw [z] at hab; exact hab rfl
  have atlo : ∀ e j, j < J → ri_at (ri_u fo J a) (ri_u ft J b) e j = ri_at fo ft e j := by
    intro e j hj
    unfold ri_at
    rw [ri_un (by omega), ri_un (by omega)]
  have athi : ∀ e, ri_at (ri_u fo J a) (ri_u ft J b) e J = (decide (a = e) || decide (b = e)) := by
    intro e
    unfold ri_at
    rw [ri_us, ri_us]
  have cnlo : ∀ e j, j ≤ J → ri_cn (ri_at (ri_u fo J a) (ri_u ft J b) e) j = ri_cn (ri_at fo ft e) j := by
    intro e j hj
    exact ri_cn_c (fun i hi => atlo e i (by omega))
  refine ⟨by omega, ?_, ?_, ?_, ?_, ?_, ?_, ?_⟩
  · intro j; unfold ri_u; split
    · exact ha
    · exact FO j
  · intro j; unfold ri_u; split
    · exact hb
    · exact FT j
  · intro e
    by_cases z : e = b
    · subst z; rw [ri_us]; omega
    · rw [ri_un z]
      by_cases y : e = a
      · subst y; rw [ri_us]; omega
      · rw [ri_un y]; exact CT e
  · intro i
    by_cases z : i = 2 * b + ct b
    · subst z; rw [ri_us]; omega
    · rw [ri_un z]
      by_cases y : i = 2 * a + ct a
      · subst y; rw [ri_us]; omega
      · rw [ri_un y]; exact EJ i
  · intro j hj
    by_cases z : j = J
    · subst z; rw [ri_us, ri_us]; exact hab
    · rw [ri_un z, ri_un z]; exact H0 j (by omega)
  · intro e he
    simp only [ri_cn]
    rw [cnlo e J (Nat.le_refl _), athi e, ← H1 e he]
    by_cases z : e = b
    · subst z; rw [ri_us]; simp
    · rw [ri_un z]
      by_cases y : e = a
      · subst y; rw [ri_us]; simp
      · rw [ri_un y]; simp [Ne.symm z, Ne.symm y]
  · intro e he j hj hat
    rw [cnlo e j (by omega)]
    by_cases z : j = J
    · subst z
      rw [athi e] at hat
      simp only [Bool.or_eq_true, decide_eq_true_eq] at hat
      rw [← H1 e he]
      rcases hat with y | y
      · subst y
        rw [ri_un (by omega), ri_us]
      · subst y
        rw [ri_us]
    · have hj' : j < J := by omega
      rw [atlo e j hj'] at hat
      have c1 := ri_cn_l hj' hat
      rw [← H1 e he] at c1
      have c2 := CT e
      have n1 : 2 * e + ri_cn (ri_at fo ft e) j ≠ 2 * b + ct b := by
        intro w
        have : e = b := by omega
        subst this
        omega
      have n2 : 2 * e + ri_cn (ri_at fo ft e) j ≠ 2 * a + ct a := by
        intro w
        have : e = a := by omega
        subst this
        omega
      rw [ri_un n1, ri_un n2]
      exact H2 e he j hj' hat
def ri_ps0 (ps : Nat → Nat) (n : Nat) : Nat → Nat := fun e => if e < n then 0 else ps e
theorem ri_ps0_s {n : Nat} : ri_u (ri_ps0 ps n) n 0 = ri_ps0 ps (n + 1) := by
  funext e
  simp only [ri_u, ri_ps0]
  by_cases z : e = n
  · rw [if_pos z, if_pos (by omega)]
  · rw [if_neg z]
    by_cases y : e < n
    · rw [if_pos y, if_pos (by omega)]
    · rw [if_neg y, if_neg (by omega)]
theorem ri_ps0_0 : ri_ps0 ps 0 = ps := by
  funext e; exact if_neg (by omega)
theorem rx_reset {post : SX → Prop} (h : post (sX J R fo ft ct ej (ri_ps0 ps 20) sg rs rl sj se cb st wt hd lk hg un dn)) : wpX_resetPoints post (sX J R fo ft ct ej ps sg rs rl sj se cb st wt hd lk hg un dn) := by
  have W := ri_fo (fun n i => wX_resetPoints_2 post (nI J) (nI R) n (nI i) (ri_n fo) (ri_n ft) (ri_n ct) (ri_n ej) (ri_n (ri_ps0 ps i)) (ri_b sg) (ri_n rs) (ri_n rl) (ri_n sj) (ri_n se) cb (ri_b st) (ri_n wt) (ri_b hd) (ri_x lk) (ri_x hg) (ri_x un) (ri_n dn)) 20 ?_ ?_
  · rw [ri_ps0_0] at W; exact W
  · intro n
    exact br_t (nI_le (a := 20) (b := 20) (by omega) (by omega)) h
  · intro n i hi p
    simp only [wX_resetPoints_2]
    simp (disch := omega) only [nI_clamp, ri_in, ri_le20, ri_upd_n0, ri_ps0_s, nI_1]
    exact br_f (by omega) ⟨hi, nm_e (nm_e p)⟩
theorem ry_reset {post : Int32 → SY → Prop} (h : wpY_findRoutes (fun u => post 1 u) (sY J R fo ft sg (ri_ps0 ps 20) rs rl sj se st wt hd lk hg un dn rv mt nx)) : ∃ n, wY_joint_159 post (nI J) (nI R) n 0 (ri_n fo) (ri_n ft) (ri_b sg) (ri_n ps) (ri_n rs) (ri_n rl) (ri_n sj) (ri_n se) (ri_b st) (ri_n wt) (ri_b hd) (ri_x lk) (ri_y hg) (ri_y un) (ri_n dn) rv mt nx := by
  have W := ri_fo (fun n i => wY_joint_159 post (nI J) (nI R) n (nI i) (ri_n fo) (ri_n ft) (ri_b sg) (ri_n (ri_ps0 ps i)) (ri_n rs) (ri_n rl) (ri_n sj) (ri_n se) (ri_b st) (ri_n wt) (ri_b hd) (ri_x lk) (ri_y hg) (ri_y un) (ri_n dn) rv mt nx) 20 ?_ ?_
  · rw [ri_ps0_0] at W; exact W
  · intro n
    exact br_t (nI_le (a := 20) (b := 20) (by omega) (by omega)) h
  · intro n i hi p
    simp only [wY_joint_159]
    simp (disch := omega) only [nI_clamp, ri_in, ri_le20, ri_upd_n0, ri_ps0_s, nI_1]
    exact br_f (by omega) ⟨hi, nm_e (nm_e p)⟩
theorem rx_attach {post : SX → Prop} {a j : Nat} (ha : a < 20) (hc : ct a < 2) (h : post (sX J R fo ft (ri_u ct a (ct a + 1)) (ri_u ej (2 * a + ct a) j) ps sg rs rl sj se cb st wt hd lk hg un dn)) : wpX_attachJoint post (sX J R fo ft ct ej ps sg rs rl sj se cb st wt hd lk hg un dn) (nI a) (nI j) := by
  simp only [wpX_attachJoint]
  simp (disch := omega) only [nI_clamp, ri_in, ri_n_ap, ri_mul2, nI_add, ri_upd_n, nI_1]
  exact ⟨ha, by omega, nm_e ⟨ha, ha, nm_e h⟩⟩
theorem rx_room {post : Int32 → Prop} {a : Nat} (ha : a < 20) (CT : ∀ a, ct a ≤ 2) (h1 : ct a < 2 → post 1) (h0 : ¬ ct a < 2 → post 0) : wpX_hasRoomForJoint post (sX J R fo ft ct ej ps sg rs rl sj se cb st wt hd lk hg un dn) (nI a) := by
  have := CT a
  simp only [wpX_hasRoomForJoint]
  simp (disch := omega) only [nI_clamp, ri_in, ri_n_ap, ri_le2]
  exact ⟨ha, br_c (fun z => h0 (by omega)) (fun z => h1 (by omega))⟩
theorem rx_joint {post : Int32 → SX → Prop} {a b : Nat} (ha : a < 20) (hb : b < 20) (hab : a / 2 ≠ b / 2) (HJ : ri_J J fo ft ct ej) (HR : ri_R J R rs rl sj se) (D : ri_D R rl se st wt hd lk hg un dn) (h0 : ¬ (J < 12 ∧ ct a < 2 ∧ ct b < 2 ∧ ri_ba (ri_dup fo ft a b) J = false ∧ ri_busy R st hg = false) → post 0 (sX J R fo ft ct ej ps sg rs rl sj se cb st wt hd lk hg un dn)) (h1 : J < 12 → ct a < 2 → ct b < 2 → ri_ba (ri_dup fo ft a b) J = false → ri_busy R st hg = false → wpX_findRoutes (fun u => post 1 u) (sX (J + 1) R (ri_u fo J a) (ri_u ft J b) (ri_u (ri_u ct a (ct a + 1)) b (ct b + 1)) (ri_u (ri_u ej (2 * a + ct a) J) (2 * b + ct b) J) (ri_ps0 ps 20) sg rs rl sj se cb st wt hd lk hg un dn)) : wpX_joint post (sX J R fo ft ct ej ps sg rs rl sj se cb st wt hd lk hg un dn) (nI a) (nI b) := by
  have hJ := HJ.1
  have hne : a ≠ b := by intro z; rw [z] at hab; exact hab rfl
  simp only [wpX_joint]
  refine rx_isE1 ha (br_f (by decide) (rx_isE1 hb (br_f (by decide) ⟨by decide, by decide, ?_⟩)))
  simp (disch := omega) only [ri_div2, nI_eq, ri_le12]
  refine br_f hab (br_c (fun z => h0 (by omega)) (fun z => ?_))
  refine rx_room ha HJ.2.2.2.1 (fun ca => br_f (by decide) ?_) (fun ca => br_t rfl (h0 (fun w => ca w.2.1)))
  refine rx_room hb HJ.2.2.2.1 (fun cb' => br_f (by decide) ?_) (fun cb' => br_t rfl (h0 (fun w => cb' w.2.2.1)))
  refine rx_joined ha hb HJ.2.2.2.1 HJ.2.2.2.2.1 HJ.2.1 HJ.2.2.1 ?_
  rw [ri_dupeq ha hne HJ]
  simp only [ri_B0]
  refine br_c (fun y => rx_free HR.1 D.1 ?_) (fun y => h0 (fun w => y w.2.2.2.1))
  simp only [ri_B0, Bool.not_eq_false']
  refine br_c (fun x => h0 (fun w => by rw [x] at w; exact absurd w.2.2.2.2 (by decide))) (fun x => ?_)
  rw [Bool.not_eq_true] at x
  have H := h1 (by omega) ca cb' y x
  simp (disch := omega) only [nI_clamp, ri_in, ri_upd_n]
  refine ⟨by omega, nm_e ⟨by omega, nm_e (rx_attach ha ca (rx_attach hb ?_ ?_))⟩⟩
  · rw [ri_un (Ne.symm hne)]; exact cb'
  · rw [ri_un (Ne.symm hne)]
    exact nm_r (nI_1 _) (rx_reset H)
theorem ry_dupL {post : Int32 → SY → Prop} {a b : Nat} (ha : a < 20) (hb : b < 20) (HJ : ri_J J fo ft ct ej) (h0 : ri_ba (ri_dup fo ft a b) J = true → post 0 (sY J R fo ft sg ps rs rl sj se st wt hd lk hg un dn rv mt nx)) (h1 : ri_ba (ri_dup fo ft a b) J = false → J < 12 ∧ wpY_findRoutes (fun u => post 1 u) (sY (J + 1) R (ri_u fo J a) (ri_u ft J b) sg (ri_ps0 ps 20) rs rl sj se st wt hd lk hg un dn rv mt nx)) : ∃ n, wY_joint_71 post (nI a) (nI b) (nI J) (nI R) (ri_n fo) (ri_n ft) (ri_b sg) (ri_n ps) (ri_n rs) (ri_n rl) (ri_n sj) (ri_n se) (ri_b st) (ri_n wt) (ri_b hd) (ri_x lk) (ri_y hg) (ri_y un) (ri_n dn) rv mt nx n 0 := by
  obtain ⟨hJ, FO, FT, -⟩ := HJ
  refine ri_sc (fun n j => wY_joint_71 post (nI a) (nI b) (nI J) (nI R) (ri_n fo) (ri_n ft) (ri_b sg) (ri_n ps) (ri_n rs) (ri_n rl) (ri_n sj) (ri_n se) (ri_b st) (ri_n wt) (ri_b hd) (ri_x lk) (ri_y hg) (ri_y un) (ri_n dn) rv mt nx n (nI j)) _ _ (ri_dup fo ft a b) J ?_ ?_ ?_ h1 h0
  · intro n p
    have hJ12 := p.1
    simp only [wY_joint_71]
    simp (disch := omega) only [nI_clamp, ri_in, ri_upd_n, nI_leI, nI_1]
    exact br_t (Nat.le_refl _) ⟨p.1, nm_e ⟨p.1, nm_e (nm_e (ry_reset p.2))⟩⟩
  · intro n j hj hf p
    have := FO j
    have := FT j
    simp only [ri_dup, Bool.or_eq_true, Bool.and_eq_true, decide_eq_true_eq] at hf
    simp only [wY_joint_71, wY_joint_99]
    simp (disch := omega) only [nI_clamp, ri_in, ri_n_ap, nI_leI, nI_eq, nI_1]
    have j12 : j < 12 := by omega
    refine br_f (by omega) ⟨j12, br_c (fun z => ⟨j12, br_c (fun _ => p) (fun y => ⟨j12, br_c (fun x => ⟨j12, br_c (fun _ => p) (fun w => ?_)⟩) (fun x => ?_)⟩)⟩) (fun z => ⟨j12, br_c (fun x => ⟨j12, br_c (fun _ => p) (fun w => ?_)⟩) (fun x => ?_)⟩)⟩
    · rcases hf with q | q
      · exact absurd q.2 y
      · exact absurd q.2 w
    · rcases hf with q | q
      · exact absurd q.2 y
      · exact absurd q.1 x
    · rcases hf with q | q
      · exact absurd q.1 z
      · exact absurd q.2 w
    · rcases hf with q | q
      · exact absurd q.1 z
      · exact absurd q.1 x
  · intro n j hj hf p
    have := FO j
    have := FT j
    have hf1 : ¬ (fo j = a ∧ ft j = b) := by
      intro w; simp [ri_dup, w] at hf
    have hf2 : ¬ (fo j = b ∧ ft j = a) := by
      intro w; simp [ri_dup, w] at hf
    simp only [wY_joint_71, wY_joint_99]
    simp (disch := omega) only [nI_clamp, ri_in, ri_n_ap, nI_leI, nI_eq, nI_1]
    have j12 : j < 12 := by omega
    refine br_f (by omega) ⟨j12, br_c (fun z => ⟨j12, br_c (fun y => absurd ⟨z, y⟩ hf1) (fun y => ⟨j12, br_c (fun x => ⟨j12, br_c (fun w => absurd ⟨x, w⟩ hf2) (fun w => nm_e p)⟩) (fun x => nm_e p)⟩)⟩) (fun z => ⟨j12, br_c (fun x => ⟨j12, br_c (fun w => absurd ⟨x, w⟩ hf2) (fun w => nm_e p)⟩) (fun x => nm_e p)⟩)⟩
theorem ry_joint {post : Int32 → SY → Prop} {a b : Nat} (ha : a < 20) (hb : b < 20) (hab : a / 2 ≠ b / 2) (HJ : ri_J J fo ft ct ej) (HR : ri_R J R rs rl sj se) (D : ri_D R rl se st wt hd lk hg un dn) (h0 : ¬ (J < 12 ∧ ct a < 2 ∧ ct b < 2 ∧ ri_ba (ri_dup fo ft a b) J = false ∧ ri_busy R st hg = false) → post 0 (sY J R fo ft sg ps rs rl sj se st wt hd lk hg un dn rv mt nx)) (h1 : J < 12 → ct a < 2 → ct b < 2 → ri_ba (ri_dup fo ft a b) J = false → ri_busy R st hg = false → wpY_findRoutes (fun u => post 1 u) (sY (J + 1) R (ri_u fo J a) (ri_u ft J b) sg (ri_ps0 ps 20) rs rl sj se st wt hd lk hg un dn rv mt nx)) : wpY_joint post (sY J R fo ft sg ps rs rl sj se st wt hd lk hg un dn rv mt nx) (nI a) (nI b) := by
  have hJ := HJ.1
  have c1 := HJ.2.2.2.1 a
  have c2 := HJ.2.2.2.1 b
  simp only [wpY_joint]
  simp (disch := omega) only [ri_eq12]
  refine br_c (fun z => h0 (by omega)) (fun z => ?_)
  refine ry_inN1 19 (by omega) ha (br_f (by decide) (ry_inN1 19 (by omega) hb (br_f (by decide) ⟨by decide, by decide, ?_⟩)))
  simp (disch := omega) only [ri_div2, nI_eq]
  refine br_f hab (ry_busy D.1 ?_)
  rw [ri_busyeq HR D]
  simp only [ri_B0]
  refine br_c (fun x => ?_) (fun x => h0 (fun w => x w.2.2.2.2))
  refine ry_jats ha HJ ?_
  simp (disch := omega) only [ri_eq2]
  refine br_c (fun y => h0 (by omega)) (fun y => ry_jats hb HJ ?_)
  simp (disch := omega) only [ri_eq2]
  refine br_c (fun w => h0 (by omega)) (fun w => ry_dupL ha hb HJ (fun e => h0 (fun q => by rw [e] at q; exact absurd q.2.2.2.1 (by decide))) (fun e => ⟨by omega, h1 (by omega) (by omega) (by omega) e x⟩))
end
