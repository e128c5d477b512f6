section
variable {J R : Nat} {fo ft ct ej ps : Nat → Nat} {sg : Nat → Bool} {rs rl sj se : Nat → Nat} {cb : Nat → Int32} {st : Nat → Bool} {wt : Nat → Nat} {hd : Nat → Bool} {lk hg un dn : Nat → Nat} {rv mt nx : Nat → Int32}
def ri_R (J R : Nat) (rs rl sj se : Nat → Nat) : Prop := R ≤ 16 ∧ (∀ r, rs r < 20) ∧ (∀ r, rl r ≤ 5) ∧ (∀ i, sj i < 12) ∧ (∀ i, se i < 20) ∧ (∀ r, r < R → 1 ≤ rl r) ∧ (∀ r, r < R → ∀ i, i < rl r → sj (5 * r + i) < J ∧ se (5 * r + i) / 2 ≠ rs r / 2)
theorem ri_Jk {a q : Nat} (HJ : ri_J J fo ft ct ej) (ha : a < 20) (hq : q < ct a) : ej (2 * a + q) < J ∧ ri_at fo ft a (ej (2 * a + q)) = true := by
  obtain ⟨hJ, FO, FT, CT, EJ, -, H1, H2⟩ := HJ
  rw [H1 a ha] at hq
  obtain ⟨i, h1, h2, h3⟩ := ri_cn_x J hq
  have := H2 a ha i h1 h2
  rw [h3] at this
  rw [this]
  exact ⟨h1, h2⟩
theorem ri_15 : ∀ i, i ≤ 4 → (15 : Int32) >>> (nI i &&& 31) = nI (2 ^ (4 - i) - 1) := by decide +kernel
theorem ri_fw {a ch : Nat} (HJ : ri_J J fo ft ct ej) (hR : R < 16) (ha : a < 20) (hc : ch < 32) : ∀ f i, i + f = 5 → ∀ (e b : Nat) (sj se : Nat → Nat), e < 20 → b < 2 ^ 10 → b.testBit (a / 2) = true → (∀ i, sj i < 12) → (∀ i, se i < 20) → (∀ k, k < i → sj (5 * R + k) < J ∧ se (5 * R + k) / 2 ≠ a / 2) →
    ∃ (len : Nat) (sj' se' : Nat → Nat), len ≤ 5 ∧ (∀ i, sj' i < 12) ∧ (∀ i, se' i < 20) ∧ (∀ x, x < 5 * R → sj' x = sj x ∧ se' x = se x) ∧ (∀ k, k < len → sj' (5 * R + k) < J ∧ se' (5 * R + k) / 2 ≠ a / 2) ∧
      (∀ post : Int32 → SX → Prop, post (nI len) (sX J R fo ft ct ej ps sg rs rl sj' se' cb st wt hd lk hg un dn) → wX_followWay_12 post (nI ch) (nI J) (nI R) (f + 1) (nI b) (nI e) (nI i) (ri_n fo) (ri_n ft) (ri_n ct) (ri_n ej) (ri_n ps) (ri_b sg) (ri_n rs) (ri_n rl) (ri_n sj) (ri_n se) cb (ri_b st) (ri_n wt) (ri_b hd) (ri_x lk) (ri_x hg) (ri_x un) (ri_n dn)) ∧
      (∀ post : SY → Prop, (len = 0 → post (sY J R fo ft sg ps rs rl sj' se' st wt hd lk hg un dn rv mt nx)) → (len ≠ 0 → post (sY J (R + 1) fo ft sg ps (ri_u rs R a) (ri_u rl R len) sj' se' st wt hd lk hg un dn rv mt nx)) → wY_follow_22 post (nI a) (nI ch) (nI J) (nI R) (f + 1) (nI e) (nI b) (nI i) (ri_n fo) (ri_n ft) (ri_b sg) (ri_n ps) (ri_n rs) (ri_n rl) (ri_n sj) (ri_n se) (ri_b st) (ri_n wt) (ri_b hd) (ri_x lk) (ri_y hg) (ri_y un) (ri_n dn) rv mt nx) := by
  have HJ' := HJ
  obtain ⟨hJ, FO, FT, CT, EJ, -, -, -⟩ := HJ'
  intro f
  induction f with
  | zero =>
    intro i hi e b sj se he hb hba SJ SE hk
    have e5 : i = 5 := by omega
    subst e5
    refine ⟨0, sj, se, by omega, SJ, SE, fun x _ => ⟨rfl, rfl⟩, fun k hk => by omega, ?_, ?_⟩
    · intro post hp
      exact br_t (nI_le (a := 5) (b := 5) (by omega) (by omega)) hp
    · intro post hp _
      exact br_t (nI_le (a := 5) (b := 5) (by omega) (by omega)) (hp rfl)
  | succ f ih =>
    intro i hi e b sj se he hb hba SJ SE hk
    have hq1 : ch / 2 ^ (4 - i) < 2 ^ 31 := by
      have := Nat.div_le_self ch (2 ^ (4 - i)); omega
    have hq2 : ch / 2 ^ (4 - i) % 2 < 2 := Nat.mod_lt _ (by omega)
    generalize hqd : ch / 2 ^ (4 - i) % 2 = q at hq2
    have hce := CT e
    generalize hn : f + 1 = n at ih ⊢
    by_cases hz : q < ct e
    · obtain ⟨hjJ, hat⟩ := ri_Jk HJ he hz
      have hj12 := EJ (2 * e + q)
      generalize hjd : ej (2 * e + q) = j at hjJ hat hj12
      have hen : ri_far fo ft j e < 20 := by
        unfold ri_far; split
        · exact FT _
        · exact FO _
      have hf1 := FO j
      have hf2 := FT j
      have hfar : ∀ (P : Int32 → Prop), P (nI (ri_far fo ft j e)) → (fo j = e → P (nI (ft j))) ∧ (¬ fo j = e → P (nI (fo j))) := by
        intro P hp
        unfold ri_far at hp
        refine ⟨fun y => ?_, fun y => ?_⟩
        · rw [if_pos y] at hp; exact hp
        · rw [if_neg y] at hp; exact hp
      generalize hend : ri_far fo ft j e = en at hen hfar
      have hop := ri_op_lt hen
      have hopd := ri_op_d en
      have hbd : b / 2 ^ (en / 2) < 2 ^ 31 := by
        have := Nat.div_le_self b (2 ^ (en / 2)); omega
      have hp2 : 2 ^ (en / 2) < 2 ^ 10 := Nat.pow_lt_pow_right (by decide) (by omega)
      have hbo : b ||| 2 ^ (en / 2) < 2 ^ 10 := Nat.or_lt_two_pow hb hp2
      -- the common opening of both walks
      have openX : ∀ post : Int32 → SX → Prop, ((b.testBit (en / 2) = true → post 0 (sX J R fo ft ct ej ps sg rs rl sj se cb st wt hd lk hg un dn)) ∧ (b.testBit (en / 2) = false → ((sg (ri_op en) = true ∨ ct (ri_op en) = 0 → wX_followWay_146 post (nI ch) (nI i) (nI J) (nI R) (ri_n fo) (ri_n ft) (ri_n ct) (ri_n ej) (ri_n ps) (ri_b sg) (ri_n rs) (ri_n rl) (ri_n (ri_u sj (5 * R + i) j)) (ri_n (ri_u se (5 * R + i) en)) cb (ri_b st) (ri_n wt) (ri_b hd) (ri_x lk) (ri_x hg) (ri_x un) (ri_n dn)) ∧ (¬ (sg (ri_op en) = true ∨ ct (ri_op en) = 0) → wX_followWay_12 post (nI ch) (nI J) (nI R) n (nI (b ||| 2 ^ (en / 2))) (nI (ri_op en)) (nI (i + 1)) (ri_n fo) (ri_n ft) (ri_n ct) (ri_n ej) (ri_n ps) (ri_b sg) (ri_n rs) (ri_n rl) (ri_n (ri_u sj (5 * R + i) j)) (ri_n (ri_u se (5 * R + i) en)) cb (ri_b st) (ri_n wt) (ri_b hd) (ri_x lk) (ri_x hg) (ri_x un) (ri_n dn))))) → wX_followWay_12 post (nI ch) (nI J) (nI R) (n + 1) (nI b) (nI e) (nI i) (ri_n fo) (ri_n ft) (ri_n ct) (ri_n ej) (ri_n ps) (ri_b sg) (ri_n rs) (ri_n rl) (ri_n sj) (ri_n se) cb (ri_b st) (ri_n wt) (ri_b hd) (ri_x lk) (ri_x hg) (ri_x un) (ri_n dn) := by
        intro post H
        simp only [wX_followWay_12]
        simp (disch := omega) only [ri_le5, ri_four, ri_shr, ri_a1, hqd]
        refine br_f (by omega) (nm_e ?_)
        simp (disch := omega) only [nI_clamp, ri_in, ri_n_ap, nI_ltI, ri_mul2, nI_add, hjd]
        refine ⟨by omega, br_t hz ⟨by omega, nm_e ?_⟩⟩
        refine rx_far hj12 (by omega) FO ?_
        rw [hend]
        simp (disch := omega) only [ri_two, not_false_eq_true, true_and, ri_div2, ri_shr, ri_a1, ri_eq0, ri_tb, ri_sh1, ri_or, ri_mul5, nI_add, nI_clamp, ri_in, ri_upd_n, ri_op_x, nI_1]
        refine br_c (fun y => nm_e ⟨by omega, nm_e ⟨by omega, nm_e (nm_e ?_)⟩⟩) (fun y => ?_)
        · have H2 := H.2 y
          simp (disch := omega) only [nI_clamp, ri_in, ri_b_ap, ri_B0, ri_n_ap]
          have hcc := CT (ri_op en)
          simp (disch := omega) only [ri_eq0]
          refine ⟨hop, br_c (fun w1 => ⟨hop, br_c (fun w2 => H2.1 (Or.inr w2)) (fun w2 => nm_e (H2.2 ?_))⟩) (fun w1 => H2.1 (Or.inl ?_))⟩
          · rintro (w | w)
            · rw [w1] at w; exact absurd w (by decide)
            · exact w2 w
          · rw [Bool.not_eq_false] at w1; exact w1
        · rw [Bool.not_eq_false] at y; exact H.1 y
      have openY : ∀ post : SY → Prop, ((b.testBit (en / 2) = true → post (sY J R fo ft sg ps rs rl sj se st wt hd lk hg un dn rv mt nx)) ∧ (b.testBit (en / 2) = false → ((sg (ri_op en) = true ∨ ct (ri_op en) = 0 → wY_follow_160 post (nI a) (nI ch) (nI i) (nI J) (nI R) (ri_n fo) (ri_n ft) (ri_b sg) (ri_n ps) (ri_n rs) (ri_n rl) (ri_n (ri_u sj (5 * R + i) j)) (ri_n (ri_u se (5 * R + i) en)) (ri_b st) (ri_n wt) (ri_b hd) (ri_x lk) (ri_y hg) (ri_y un) (ri_n dn) rv mt nx) ∧ (¬ (sg (ri_op en) = true ∨ ct (ri_op en) = 0) → wY_follow_22 post (nI a) (nI ch) (nI J) (nI R) n (nI (ri_op en)) (nI (b ||| 2 ^ (en / 2))) (nI (i + 1)) (ri_n fo) (ri_n ft) (ri_b sg) (ri_n ps) (ri_n rs) (ri_n rl) (ri_n (ri_u sj (5 * R + i) j)) (ri_n (ri_u se (5 * R + i) en)) (ri_b st) (ri_n wt) (ri_b hd) (ri_x lk) (ri_y hg) (ri_y un) (ri_n dn) rv mt nx)))) → wY_follow_22 post (nI a) (nI ch) (nI J) (nI R) (n + 1) (nI e) (nI b) (nI i) (ri_n fo) (ri_n ft) (ri_b sg) (ri_n ps) (ri_n rs) (ri_n rl) (ri_n sj) (ri_n se) (ri_b st) (ri_n wt) (ri_b hd) (ri_x lk) (ri_y hg) (ri_y un) (ri_n dn) rv mt nx := by
        intro post H
        have T : wY_follow_77 post (wY_follow_22 post (nI a) (nI ch) (nI J) (nI R) n) (nI a) (nI ch) (nI b) (nI i) (nI j) (nI en) (nI J) (nI R) (ri_n fo) (ri_n ft) (ri_b sg) (ri_n ps) (ri_n rs) (ri_n rl) (ri_n sj) (ri_n se) (ri_b st) (ri_n wt) (ri_b hd) (ri_x lk) (ri_y hg) (ri_y un) (ri_n dn) rv mt nx := by
          simp only [wY_follow_77]
          simp (disch := omega) only [ri_two, not_false_eq_true, true_and, ri_div2, ri_shr, ri_a1, ri_eq1, ri_tb1, ri_sh1, ri_or, ri_mul5', nI_add, nI_clamp, ri_in, ri_upd_n, nI_1]
          refine br_c (fun y => H.1 y) (fun y => nm_e ⟨by omega, nm_e ⟨by omega, nm_e ?_⟩⟩)
          rw [Bool.not_eq_true] at y
          have H2 := H.2 y
          simp only [wpY_opposite]
          simp (disch := omega) only [ri_op_x, nI_clamp, ri_in, ri_b_ap, ri_B0]
          refine ⟨hop, br_c (fun w1 => ry_jats hop HJ ?_) (fun w1 => H2.1 (Or.inl ?_))⟩
          · have hcc := CT (ri_op en)
            simp (disch := omega) only [ri_eq0]
            refine br_c (fun w2 => H2.1 (Or.inr w2)) (fun w2 => nm_e (H2.2 ?_))
            rintro (w | w)
            · rw [w1] at w; exact absurd w (by decide)
            · exact w2 w
          · rw [Bool.not_eq_false] at w1; exact w1
        simp only [wY_follow_22]
        simp (disch := omega) only [ri_le5, ri_four, ri_shr, ri_a1, hqd]
        refine br_f (by omega) (ry_jat he (by omega) HJ (fun _ => ?_) (fun y => absurd y (by omega)))
        rw [hjd]
        simp (disch := omega) only [ri_le0, nI_clamp, ri_in, ri_n_ap, nI_eq]
        have hT := hfar (fun z => wY_follow_77 post (wY_follow_22 post (nI a) (nI ch) (nI J) (nI R) n) (nI a) (nI ch) (nI b) (nI i) (nI j) z (nI J) (nI R) (ri_n fo) (ri_n ft) (ri_b sg) (ri_n ps) (ri_n rs) (ri_n rl) (ri_n sj) (ri_n se) (ri_b st) (ri_n wt) (ri_b hd) (ri_x lk) (ri_y hg) (ri_y un) (ri_n dn) rv mt nx) T
        exact br_t (Nat.zero_le _) ⟨hj12, br_c (fun y => ⟨hj12, hT.1 y⟩) (fun y => ⟨hj12, hT.2 y⟩)⟩
      by_cases hbt : b.testBit (en / 2) = true
      · refine ⟨0, sj, se, by omega, SJ, SE, fun x _ => ⟨rfl, rfl⟩, fun k hk => by omega, ?_, ?_⟩
        · intro post hp
          exact openX post ⟨fun _ => hp, fun y => by rw [hbt] at y; exact absurd y (by decide)⟩
        · intro post hp _
          exact openY post ⟨fun _ => hp rfl, fun y => by rw [hbt] at y; exact absurd y (by decide)⟩
      · have hne : en / 2 ≠ a / 2 := by
          intro y; rw [y] at hbt; exact hbt hba
        have SJ' : ∀ x, ri_u sj (5 * R + i) j x < 12 := by
          intro x; unfold ri_u; split
          · exact hj12
          · exact SJ x
        have SE' : ∀ x, ri_u se (5 * R + i) en x < 20 := by
          intro x; unfold ri_u; split
          · exact hen
          · exact SE x
        have hk' : ∀ k, k < i + 1 → ri_u sj (5 * R + i) j (5 * R + k) < J ∧ ri_u se (5 * R + i) en (5 * R + k) / 2 ≠ a / 2 := by
          intro k hk2
          by_cases y : k = i
          · subst y; rw [ri_us, ri_us]; exact ⟨hjJ, hne⟩
          · rw [ri_un (by omega), ri_un (by omega)]; exact hk k (by omega)
        have lo : ∀ x, x < 5 * R → ri_u sj (5 * R + i) j x = sj x ∧ ri_u se (5 * R + i) en x = se x := by
          intro x hx; rw [ri_un (by omega), ri_un (by omega)]; exact ⟨rfl, rfl⟩
        by_cases hs : sg (ri_op en) = true ∨ ct (ri_op en) = 0
        · have hm : ch &&& (2 ^ (4 - i) - 1) < 2 ^ 31 := by
            have := Nat.and_le_left (n := ch) (m := 2 ^ (4 - i) - 1); omega
          have hp4 := ri_p31 (n := 4 - i) (by omega)
          have hp5 := Nat.two_pow_pos (4 - i)
          by_cases hl : ch &&& (2 ^ (4 - i) - 1) = 0
          · refine ⟨i + 1, _, _, by omega, SJ', SE', lo, hk', ?_, ?_⟩
            · intro post hp
              refine openX post ⟨fun y => absurd y hbt, fun _ => ⟨fun _ => ?_, fun y => absurd hs y⟩⟩
              simp only [wX_followWay_146]
              simp (disch := omega) only [ri_four, ri_sh1, ri_sub1, ri_and, nI_1]
              refine nm_e ?_
              simp (disch := omega) only [ri_eq0]
              exact br_t hl hp
            · intro post _ hp
              refine openY post ⟨fun y => absurd y hbt, fun _ => ⟨fun _ => ?_, fun y => absurd hs y⟩⟩
              simp only [wY_follow_160]
              simp (disch := omega) only [ri_15, ri_and, ri_eq0, nI_clamp, ri_in, nI_1, ri_upd_n]
              exact br_t hl ⟨hR, nm_e ⟨hR, nm_e (nm_e (hp (by omega)))⟩⟩
          · refine ⟨0, _, _, by omega, SJ', SE', lo, fun k hk => by omega, ?_, ?_⟩
            · intro post hp
              refine openX post ⟨fun y => absurd y hbt, fun _ => ⟨fun _ => ?_, fun y => absurd hs y⟩⟩
              simp only [wX_followWay_146]
              simp (disch := omega) only [ri_four, ri_sh1, ri_sub1, ri_and, nI_1]
              refine nm_e ?_
              simp (disch := omega) only [ri_eq0]
              exact br_f hl hp
            · intro post hp _
              refine openY post ⟨fun y => absurd y hbt, fun _ => ⟨fun _ => ?_, fun y => absurd hs y⟩⟩
              simp only [wY_follow_160]
              simp (disch := omega) only [ri_15, ri_and, ri_eq0, nI_clamp, ri_in, nI_1, ri_upd_n]
              exact br_f hl (hp rfl)
        · have hbt2 : (b ||| 2 ^ (en / 2)).testBit (a / 2) = true := by
            rw [Nat.testBit_or, hba, Bool.true_or]
          obtain ⟨len, sj', se', g1, g2, g3, g4, g5, gX, gY⟩ := ih (i + 1) (by omega) (ri_op en) (b ||| 2 ^ (en / 2)) _ _ hop hbo hbt2 SJ' SE' hk'
          refine ⟨len, sj', se', g1, g2, g3, fun x hx => ?_, g5, ?_, ?_⟩
          · rw [(g4 x hx).1, (g4 x hx).2]; exact lo x hx
          · intro post hp
            exact openX post ⟨fun y => absurd y hbt, fun _ => ⟨fun y => absurd y hs, fun _ => gX post hp⟩⟩
          · intro post hp0 hp1
            exact openY post ⟨fun y => absurd y hbt, fun _ => ⟨fun y => absurd y hs, fun _ => gY post hp0 hp1⟩⟩
    · refine ⟨0, sj, se, by omega, SJ, SE, fun x _ => ⟨rfl, rfl⟩, fun k hk => by omega, ?_, ?_⟩
      · intro post hp
        simp only [wX_followWay_12]
        simp (disch := omega) only [ri_le5, ri_four, ri_shr, ri_a1, hqd]
        refine br_f (by omega) (nm_e ?_)
        simp (disch := omega) only [nI_clamp, ri_in, ri_n_ap, nI_ltI]
        exact ⟨he, br_f hz hp⟩
      · intro post hp _
        simp only [wY_follow_22]
        simp (disch := omega) only [ri_le5, ri_four, ri_shr, ri_a1, hqd]
        refine br_f (by omega) (ry_jat he (by omega) HJ (fun y => absurd y hz) (fun _ => ?_))
        exact br_f (by decide) (hp rfl)
end
