section
theorem pk_us {f : Nat → Int32} {k : Nat} {x : Int32} : upd f k x k = x := if_pos rfl
theorem pk_un {f : Nat → Int32} {k j : Nat} {x : Int32} (h : j ≠ k) : upd f k x j = f j := if_neg h
theorem pk_sub {a b : Nat} (h : b ≤ a) : nI a - nI b = nI (a - b) := by
  obtain ⟨c, rfl⟩ : ∃ c, a = c + b := ⟨a - b, by omega⟩
  rw [← nI_add, Int32.add_sub_cancel, Nat.add_sub_cancel]
theorem pk_m1 (n : Nat) : nI (n + 1) + (-1) = nI n := by
  rw [← nI_1, Int32.add_assoc, show (1 : Int32) + (-1) = 0 from rfl, Int32.add_zero]
theorem pk_mul (a b : Nat) : nI a * nI b = nI (a * b) := (Int32.ofNat_mul a b).symm
theorem pk_div {a d : Nat} (ha : a < 2 ^ 31) (h0 : 0 < d) (hd : d < 2 ^ 31) : nI a / nI d = nI (a / d) := by
  apply Int32.toInt_inj.mp
  rw [lg_idiv_nonneg (by rw [nI_toInt ha]; omega) (by rw [nI_toInt hd]; omega), nI_toInt ha, nI_toInt hd, nI_toInt (Nat.lt_of_le_of_lt (Nat.div_le_self a d) ha)]
  first | rfl | exact (Int.natCast_ediv _ _).symm
theorem pk_rem {a d : Nat} (ha : a < 2 ^ 31) (h0 : 0 < d) (hd : d < 2 ^ 31) : nI a - nI a / nI d * nI d = nI (a % d) := by
  rw [pk_div ha h0 hd, pk_mul, pk_sub (Nat.div_mul_le_self a d)]
  exact congrArg nI (by have := Nat.div_add_mod' a d; omega)
theorem pk_sub_toInt {a b : Nat} (ha : a < 2 ^ 30) (hb : b < 2 ^ 30) : (nI a - nI b).toInt = (a : Int) - b := by
  rw [Int32.toInt_sub, nI_toInt (by omega), nI_toInt (by omega)]
  exact Int.bmod_eq_of_le (by omega) (by omega)
theorem pk_sneg {a b : Nat} (hb : b < 2 ^ 30) (h : a < b) : nI a - nI b < 0 := by
  rw [Int32.lt_iff_toInt_lt, pk_sub_toInt (by omega) hb, show (0 : Int32).toInt = 0 from by decide]
  omega
theorem pk_least (P : Nat → Prop) (h : ∃ k, P k) : ∃ k, P k ∧ ∀ j, j < k → ¬ P j := by
  obtain ⟨k, hk⟩ := h
  induction k using Nat.strongRecOn with
  | ind k ih =>
    by_cases e : ∃ j, j < k ∧ P j
    · obtain ⟨j, hj, pj⟩ := e
      exact ih j hj pj
    · exact ⟨k, hk, fun j hj pj => e ⟨j, hj, pj⟩⟩
theorem pk_ix (x : Int32) {n : Nat} (hn : n < 2 ^ 31) : x < 0 ∨ nI n ≤ x ∨ ∃ j : Nat, j < n ∧ x = nI j := by
  by_cases h : x < 0
  · exact Or.inl h
  · obtain ⟨j, hj, rfl⟩ := nI_of h
    by_cases h2 : j < n
    · exact Or.inr (Or.inr ⟨j, h2, rfl⟩)
    · exact Or.inr (Or.inl (nI_le (by omega) hj))
theorem pk_le {x y : Int32} {A B : Prop} (a b : Nat) (f : a ≤ b → A) (g : b < a → B) (hx : x = nI a := by rfl) (hy : y = nI b := by rfl) (ha : a < 2 ^ 31 := by omega) (hb : b < 2 ^ 31 := by omega) : (x ≤ y → A) ∧ (¬ x ≤ y → B) := by
  subst hx hy
  rw [nI_leI ha hb]
  exact ⟨f, fun z => g (by omega)⟩
theorem pk_lt {x y : Int32} {A B : Prop} (a b : Nat) (f : a < b → A) (g : b ≤ a → B) (hx : x = nI a := by rfl) (hy : y = nI b := by rfl) (ha : a < 2 ^ 31 := by omega) (hb : b < 2 ^ 31 := by omega) : (x < y → A) ∧ (¬ x < y → B) := by
  subst hx hy
  rw [nI_ltI ha hb]
  exact ⟨f, fun z => g (by omega)⟩
theorem pk_eq {x y : Int32} {A B : Prop} (a b : Nat) (f : a = b → A) (g : a ≠ b → B) (hx : x = nI a := by rfl) (hy : y = nI b := by rfl) (ha : a < 2 ^ 31 := by omega) (hb : b < 2 ^ 31 := by omega) : (x = y → A) ∧ (¬ x = y → B) := by
  subst hx hy
  rw [nI_eq ha hb]
  exact ⟨f, g⟩
theorem pk_in {x : Int32} (n N : Nat) (h : n < N) (hx : x = nI n := by rfl) (hN : N < 2 ^ 31 := by omega) : vp_in x N := by
  subst hx
  exact vp_in_nI h hN
theorem pk_cl {x : Int32} (n : Nat) (hx : x = nI n := by rfl) (h : n < 2 ^ 31 := by omega) : x.toNatClampNeg = n := by
  subst hx
  exact nI_clamp h
theorem pk_tn {n : Nat} (h : n < 2 ^ 32) : (nI n).toBitVec.toNat = n := Nat.mod_eq_of_lt h
theorem pk_and (x : Int32) {m : Int32} (k : Nat) (hm : m.toBitVec.toNat = 2 ^ k - 1) : x &&& m = nI (x.toBitVec.toNat % 2 ^ k) := by
  apply Int32.toBitVec_inj.mp
  apply BitVec.eq_of_toNat_eq
  rw [Int32.toBitVec_and, BitVec.toNat_and, hm, Nat.and_two_pow_sub_one_eq_mod]
  show _ = (BitVec.ofNat 32 _).toNat
  rw [BitVec.toNat_ofNat]
  exact (Nat.mod_eq_of_lt (Nat.lt_of_le_of_lt (Nat.mod_le _ _) x.toBitVec.isLt)).symm
theorem pk_andN {n : Nat} (h : n < 2 ^ 32) {m : Int32} (k : Nat) (hm : m.toBitVec.toNat = 2 ^ k - 1) : nI n &&& m = nI (n % 2 ^ k) := by
  rw [pk_and _ k hm, pk_tn h]
theorem pk_shl (a s : Int32) (k : Nat) (hs : (s.toBitVec.smod 32).toNat = k) : (a <<< s).toBitVec.toNat = a.toBitVec.toNat * 2 ^ k % 2 ^ 32 := by
  show (a.toBitVec <<< (s.toBitVec.smod 32).toNat).toNat = _
  rw [hs, BitVec.toNat_shiftLeft, Nat.shiftLeft_eq]
theorem pk_shlN {n : Nat} (s : Int32) (k : Nat) (hs : (s.toBitVec.smod 32).toNat = k) (h : n * 2 ^ k < 2 ^ 32) : nI n <<< s = nI (n * 2 ^ k) := by
  apply Int32.toBitVec_inj.mp
  apply BitVec.eq_of_toNat_eq
  have hn : n < 2 ^ 32 := Nat.lt_of_le_of_lt (Nat.le_mul_of_pos_right n (Nat.two_pow_pos k)) h
  rw [pk_shl _ _ k hs, pk_tn hn, pk_tn h, Nat.mod_eq_of_lt h]
theorem pk_shr (a s : Int32) (k : Nat) (hs : (s.toBitVec.smod 32).toNat = k) : (a >>> s).toInt = a.toInt >>> k := by
  show (a.toBitVec.sshiftRight (s.toBitVec.smod 32).toNat).toInt = _
  rw [hs, BitVec.toInt_sshiftRight]
  rfl
theorem pk_shrN {n : Nat} (h : n < 2 ^ 31) (s : Int32) (k : Nat) (hs : (s.toBitVec.smod 32).toNat = k) : nI n >>> s = nI (n / 2 ^ k) := by
  apply Int32.toInt_inj.mp
  have h2 : n / 2 ^ k ≤ n := Nat.div_le_self _ _
  rw [pk_shr _ _ k hs, nI_toInt h, nI_toInt (by omega), Int.shiftRight_eq_div_pow]
  rfl
theorem nx_and (a b : Nat) : nI a &&& nI b = nI (a &&& b) := by
  apply Int32.toBitVec_inj.1
  show BitVec.ofNat 32 a &&& BitVec.ofNat 32 b = BitVec.ofNat 32 (a &&& b)
  apply BitVec.eq_of_getLsbD_eq
  intro i hi
  simp [hi]
def ri_B (b : Bool) : Int32 := if b = true then 1 else 0
def ri_cx (n : Nat) : Int32 := if n = 0 then -2 else nI (n - 1)
def ri_cy (n : Nat) : Int32 := if n = 0 then -1 else nI (n - 1)
def ri_n (f : Nat → Nat) : Nat → Int32 := fun j => nI (f j)
def ri_b (f : Nat → Bool) : Nat → Int32 := fun j => ri_B (f j)
def ri_x (f : Nat → Nat) : Nat → Int32 := fun j => ri_cx (f j)
def ri_y (f : Nat → Nat) : Nat → Int32 := fun j => ri_cy (f j)
def ri_u {α : Type} (f : Nat → α) (k : Nat) (v : α) : Nat → α := fun j => if j = k then v else f j
theorem ri_us {α : Type} {f : Nat → α} {k : Nat} {v : α} : ri_u f k v k = v := if_pos rfl
theorem ri_un {α : Type} {f : Nat → α} {k j : Nat} {v : α} (h : j ≠ k) : ri_u f k v j = f j := if_neg h
theorem ri_ui {α : Type} {f : Nat → α} {k : Nat} {v : α} (h : f k = v) : ri_u f k v = f := by
  funext j
  by_cases e : j = k
  · subst e; rw [ri_us, h]
  · rw [ri_un e]
theorem ri_n_ap (f : Nat → Nat) (j : Nat) : ri_n f j = nI (f j) := rfl
theorem ri_b_ap (f : Nat → Bool) (j : Nat) : ri_b f j = ri_B (f j) := rfl
theorem ri_x_ap (f : Nat → Nat) (j : Nat) : ri_x f j = ri_cx (f j) := rfl
theorem ri_y_ap (f : Nat → Nat) (j : Nat) : ri_y f j = ri_cy (f j) := rfl
theorem ri_upd_n (f : Nat → Nat) (k v : Nat) : upd (ri_n f) k (nI v) = ri_n (ri_u f k v) := by
  funext j; simp only [upd, ri_n, ri_u]; split <;> rfl
theorem ri_upd_n0 (f : Nat → Nat) (k : Nat) : upd (ri_n f) k 0 = ri_n (ri_u f k 0) := ri_upd_n f k 0
theorem ri_upd_n1 (f : Nat → Nat) (k : Nat) : upd (ri_n f) k 1 = ri_n (ri_u f k 1) := ri_upd_n f k 1
theorem ri_upd_n3 (f : Nat → Nat) (k : Nat) : upd (ri_n f) k 3 = ri_n (ri_u f k 3) := ri_upd_n f k 3
theorem ri_upd_b (f : Nat → Bool) (k : Nat) (v : Bool) : upd (ri_b f) k (ri_B v) = ri_b (ri_u f k v) := by
  funext j; simp only [upd, ri_b, ri_u]; split <;> rfl
theorem ri_nar (b : Bool) : vp_nar .boolean (ri_B b) = ri_B b := by cases b <;> rfl
theorem ri_nar0 : vp_nar .boolean 0 = ri_B false := rfl
theorem ri_nar1 : vp_nar .boolean 1 = ri_B true := rfl
theorem ri_narr (b : Bool) : narrow .boolean (.int (ri_B b)) = .int (ri_B b) := by cases b <;> rfl
theorem ri_upd_x (f : Nat → Nat) (k v : Nat) : upd (ri_x f) k (ri_cx v) = ri_x (ri_u f k v) := by
  funext j; simp only [upd, ri_x, ri_u]; split <;> rfl
theorem ri_upd_y (f : Nat → Nat) (k v : Nat) : upd (ri_y f) k (ri_cy v) = ri_y (ri_u f k v) := by
  funext j; simp only [upd, ri_y, ri_u]; split <;> rfl
theorem ri_cx_s (v : Nat) : ri_cx (v + 1) = nI v := rfl
theorem ri_cy_s (v : Nat) : ri_cy (v + 1) = nI v := rfl
theorem ri_cx_p {v : Nat} (h : v ≠ 0) : ri_cx v = nI (v - 1) := if_neg h
theorem ri_cy_p {v : Nat} (h : v ≠ 0) : ri_cy v = nI (v - 1) := if_neg h
theorem ri_upd_x0 (f : Nat → Nat) (k : Nat) : upd (ri_x f) k (-2) = ri_x (ri_u f k 0) := ri_upd_x f k 0
theorem ri_upd_y0 (f : Nat → Nat) (k : Nat) : upd (ri_y f) k (-1) = ri_y (ri_u f k 0) := ri_upd_y f k 0
theorem ri_upd_xs (f : Nat → Nat) (k v : Nat) : upd (ri_x f) k (nI v) = ri_x (ri_u f k (v + 1)) := ri_upd_x f k (v + 1)
theorem ri_upd_ys (f : Nat → Nat) (k v : Nat) : upd (ri_y f) k (nI v) = ri_y (ri_u f k (v + 1)) := ri_upd_y f k (v + 1)
theorem ri_le0 {i : Nat} (h : i < 2 ^ 31) : (((0 : Int32) ≤ nI i)) ↔ 0 ≤ i := nI_leI (a := 0) (by decide) h
theorem ri_ge0 {i : Nat} (h : i < 2 ^ 31) : ((nI i ≤ (0 : Int32))) ↔ i ≤ 0 := nI_leI (b := 0) h (by decide)
theorem ri_lt0 {i : Nat} (h : i < 2 ^ 31) : (((0 : Int32) < nI i)) ↔ 0 < i := nI_ltI (a := 0) (by decide) h
theorem ri_gt0 {i : Nat} (h : i < 2 ^ 31) : ((nI i < (0 : Int32))) ↔ i < 0 := nI_ltI (b := 0) h (by decide)
theorem ri_eq0 {i : Nat} (h : i < 2 ^ 31) : ((nI i = (0 : Int32))) ↔ i = 0 := nI_eq (b := 0) h (by decide)
theorem ri_le1 {i : Nat} (h : i < 2 ^ 31) : (((1 : Int32) ≤ nI i)) ↔ 1 ≤ i := nI_leI (a := 1) (by decide) h
theorem ri_ge1 {i : Nat} (h : i < 2 ^ 31) : ((nI i ≤ (1 : Int32))) ↔ i ≤ 1 := nI_leI (b := 1) h (by decide)
theorem ri_lt1 {i : Nat} (h : i < 2 ^ 31) : (((1 : Int32) < nI i)) ↔ 1 < i := nI_ltI (a := 1) (by decide) h
theorem ri_gt1 {i : Nat} (h : i < 2 ^ 31) : ((nI i < (1 : Int32))) ↔ i < 1 := nI_ltI (b := 1) h (by decide)
theorem ri_eq1 {i : Nat} (h : i < 2 ^ 31) : ((nI i = (1 : Int32))) ↔ i = 1 := nI_eq (b := 1) h (by decide)
theorem ri_le2 {i : Nat} (h : i < 2 ^ 31) : (((2 : Int32) ≤ nI i)) ↔ 2 ≤ i := nI_leI (a := 2) (by decide) h
theorem ri_ge2 {i : Nat} (h : i < 2 ^ 31) : ((nI i ≤ (2 : Int32))) ↔ i ≤ 2 := nI_leI (b := 2) h (by decide)
theorem ri_lt2 {i : Nat} (h : i < 2 ^ 31) : (((2 : Int32) < nI i)) ↔ 2 < i := nI_ltI (a := 2) (by decide) h
theorem ri_gt2 {i : Nat} (h : i < 2 ^ 31) : ((nI i < (2 : Int32))) ↔ i < 2 := nI_ltI (b := 2) h (by decide)
theorem ri_eq2 {i : Nat} (h : i < 2 ^ 31) : ((nI i = (2 : Int32))) ↔ i = 2 := nI_eq (b := 2) h (by decide)
theorem ri_le3 {i : Nat} (h : i < 2 ^ 31) : (((3 : Int32) ≤ nI i)) ↔ 3 ≤ i := nI_leI (a := 3) (by decide) h
theorem ri_ge3 {i : Nat} (h : i < 2 ^ 31) : ((nI i ≤ (3 : Int32))) ↔ i ≤ 3 := nI_leI (b := 3) h (by decide)
theorem ri_lt3 {i : Nat} (h : i < 2 ^ 31) : (((3 : Int32) < nI i)) ↔ 3 < i := nI_ltI (a := 3) (by decide) h
theorem ri_gt3 {i : Nat} (h : i < 2 ^ 31) : ((nI i < (3 : Int32))) ↔ i < 3 := nI_ltI (b := 3) h (by decide)
theorem ri_eq3 {i : Nat} (h : i < 2 ^ 31) : ((nI i = (3 : Int32))) ↔ i = 3 := nI_eq (b := 3) h (by decide)
theorem ri_le4 {i : Nat} (h : i < 2 ^ 31) : (((4 : Int32) ≤ nI i)) ↔ 4 ≤ i := nI_leI (a := 4) (by decide) h
theorem ri_ge4 {i : Nat} (h : i < 2 ^ 31) : ((nI i ≤ (4 : Int32))) ↔ i ≤ 4 := nI_leI (b := 4) h (by decide)
theorem ri_lt4 {i : Nat} (h : i < 2 ^ 31) : (((4 : Int32) < nI i)) ↔ 4 < i := nI_ltI (a := 4) (by decide) h
theorem ri_gt4 {i : Nat} (h : i < 2 ^ 31) : ((nI i < (4 : Int32))) ↔ i < 4 := nI_ltI (b := 4) h (by decide)
theorem ri_eq4 {i : Nat} (h : i < 2 ^ 31) : ((nI i = (4 : Int32))) ↔ i = 4 := nI_eq (b := 4) h (by decide)
theorem ri_le5 {i : Nat} (h : i < 2 ^ 31) : (((5 : Int32) ≤ nI i)) ↔ 5 ≤ i := nI_leI (a := 5) (by decide) h
theorem ri_ge5 {i : Nat} (h : i < 2 ^ 31) : ((nI i ≤ (5 : Int32))) ↔ i ≤ 5 := nI_leI (b := 5) h (by decide)
theorem ri_lt5 {i : Nat} (h : i < 2 ^ 31) : (((5 : Int32) < nI i)) ↔ 5 < i := nI_ltI (a := 5) (by decide) h
theorem ri_gt5 {i : Nat} (h : i < 2 ^ 31) : ((nI i < (5 : Int32))) ↔ i < 5 := nI_ltI (b := 5) h (by decide)
theorem ri_eq5 {i : Nat} (h : i < 2 ^ 31) : ((nI i = (5 : Int32))) ↔ i = 5 := nI_eq (b := 5) h (by decide)
theorem ri_le10 {i : Nat} (h : i < 2 ^ 31) : (((10 : Int32) ≤ nI i)) ↔ 10 ≤ i := nI_leI (a := 10) (by decide) h
theorem ri_ge10 {i : Nat} (h : i < 2 ^ 31) : ((nI i ≤ (10 : Int32))) ↔ i ≤ 10 := nI_leI (b := 10) h (by decide)
theorem ri_lt10 {i : Nat} (h : i < 2 ^ 31) : (((10 : Int32) < nI i)) ↔ 10 < i := nI_ltI (a := 10) (by decide) h
theorem ri_gt10 {i : Nat} (h : i < 2 ^ 31) : ((nI i < (10 : Int32))) ↔ i < 10 := nI_ltI (b := 10) h (by decide)
theorem ri_eq10 {i : Nat} (h : i < 2 ^ 31) : ((nI i = (10 : Int32))) ↔ i = 10 := nI_eq (b := 10) h (by decide)
theorem ri_le12 {i : Nat} (h : i < 2 ^ 31) : (((12 : Int32) ≤ nI i)) ↔ 12 ≤ i := nI_leI (a := 12) (by decide) h
theorem ri_ge12 {i : Nat} (h : i < 2 ^ 31) : ((nI i ≤ (12 : Int32))) ↔ i ≤ 12 := nI_leI (b := 12) h (by decide)
theorem ri_lt12 {i : Nat} (h : i < 2 ^ 31) : (((12 : Int32) < nI i)) ↔ 12 < i := nI_ltI (a := 12) (by decide) h
theorem ri_gt12 {i : Nat} (h : i < 2 ^ 31) : ((nI i < (12 : Int32))) ↔ i < 12 := nI_ltI (b := 12) h (by decide)
theorem ri_eq12 {i : Nat} (h : i < 2 ^ 31) : ((nI i = (12 : Int32))) ↔ i = 12 := nI_eq (b := 12) h (by decide)
theorem ri_le16 {i : Nat} (h : i < 2 ^ 31) : (((16 : Int32) ≤ nI i)) ↔ 16 ≤ i := nI_leI (a := 16) (by decide) h
theorem ri_ge16 {i : Nat} (h : i < 2 ^ 31) : ((nI i ≤ (16 : Int32))) ↔ i ≤ 16 := nI_leI (b := 16) h (by decide)
theorem ri_lt16 {i : Nat} (h : i < 2 ^ 31) : (((16 : Int32) < nI i)) ↔ 16 < i := nI_ltI (a := 16) (by decide) h
theorem ri_gt16 {i : Nat} (h : i < 2 ^ 31) : ((nI i < (16 : Int32))) ↔ i < 16 := nI_ltI (b := 16) h (by decide)
theorem ri_eq16 {i : Nat} (h : i < 2 ^ 31) : ((nI i = (16 : Int32))) ↔ i = 16 := nI_eq (b := 16) h (by decide)
theorem ri_le20 {i : Nat} (h : i < 2 ^ 31) : (((20 : Int32) ≤ nI i)) ↔ 20 ≤ i := nI_leI (a := 20) (by decide) h
theorem ri_ge20 {i : Nat} (h : i < 2 ^ 31) : ((nI i ≤ (20 : Int32))) ↔ i ≤ 20 := nI_leI (b := 20) h (by decide)
theorem ri_lt20 {i : Nat} (h : i < 2 ^ 31) : (((20 : Int32) < nI i)) ↔ 20 < i := nI_ltI (a := 20) (by decide) h
theorem ri_gt20 {i : Nat} (h : i < 2 ^ 31) : ((nI i < (20 : Int32))) ↔ i < 20 := nI_ltI (b := 20) h (by decide)
theorem ri_eq20 {i : Nat} (h : i < 2 ^ 31) : ((nI i = (20 : Int32))) ↔ i = 20 := nI_eq (b := 20) h (by decide)
theorem ri_le32 {i : Nat} (h : i < 2 ^ 31) : (((32 : Int32) ≤ nI i)) ↔ 32 ≤ i := nI_leI (a := 32) (by decide) h
theorem ri_ge32 {i : Nat} (h : i < 2 ^ 31) : ((nI i ≤ (32 : Int32))) ↔ i ≤ 32 := nI_leI (b := 32) h (by decide)
theorem ri_lt32 {i : Nat} (h : i < 2 ^ 31) : (((32 : Int32) < nI i)) ↔ 32 < i := nI_ltI (a := 32) (by decide) h
theorem ri_gt32 {i : Nat} (h : i < 2 ^ 31) : ((nI i < (32 : Int32))) ↔ i < 32 := nI_ltI (b := 32) h (by decide)
theorem ri_eq32 {i : Nat} (h : i < 2 ^ 31) : ((nI i = (32 : Int32))) ↔ i = 32 := nI_eq (b := 32) h (by decide)
theorem ri_le80 {i : Nat} (h : i < 2 ^ 31) : (((80 : Int32) ≤ nI i)) ↔ 80 ≤ i := nI_leI (a := 80) (by decide) h
theorem ri_ge80 {i : Nat} (h : i < 2 ^ 31) : ((nI i ≤ (80 : Int32))) ↔ i ≤ 80 := nI_leI (b := 80) h (by decide)
theorem ri_lt80 {i : Nat} (h : i < 2 ^ 31) : (((80 : Int32) < nI i)) ↔ 80 < i := nI_ltI (a := 80) (by decide) h
theorem ri_gt80 {i : Nat} (h : i < 2 ^ 31) : ((nI i < (80 : Int32))) ↔ i < 80 := nI_ltI (b := 80) h (by decide)
theorem ri_eq80 {i : Nat} (h : i < 2 ^ 31) : ((nI i = (80 : Int32))) ↔ i = 80 := nI_eq (b := 80) h (by decide)
theorem ri_in {n N : Nat} (h : n < 2 ^ 31) (hN : N < 2 ^ 31) : vp_in (nI n) N ↔ n < N := by
  rw [vp_in_iff, nI_toInt h]; omega
theorem ri_B0 {b : Bool} : (ri_B b = 0) ↔ b = false := by cases b <;> decide
theorem ri_B1 {b : Bool} : (ri_B b = 1) ↔ b = true := by cases b <;> decide
theorem ri_BB {a b : Bool} : (ri_B a = ri_B b) ↔ a = b := by cases a <;> cases b <;> decide
theorem ri_m2 {v : Nat} (h : v < 2 ^ 31) : ¬ nI v = (-2 : Int32) := by
  intro z
  have := congrArg Int32.toInt z
  rw [nI_toInt h, show (-2 : Int32).toInt = -2 from by decide] at this
  omega
theorem ri_m1 {v : Nat} (h : v < 2 ^ 31) : ¬ nI v = (-1 : Int32) := by
  intro z
  have := congrArg Int32.toInt z
  rw [nI_toInt h, show (-1 : Int32).toInt = -1 from by decide] at this
  omega
theorem ri_nm2 {v : Nat} (h : v < 2 ^ 31) : (nI v = (-2 : Int32)) ↔ False := ⟨ri_m2 h, False.elim⟩
theorem ri_nm1 {v : Nat} (h : v < 2 ^ 31) : (nI v = (-1 : Int32)) ↔ False := ⟨ri_m1 h, False.elim⟩
theorem ri_cx_z {v : Nat} (h : v < 2 ^ 31) : (ri_cx v = (-2 : Int32)) ↔ v = 0 := by
  by_cases e : v = 0
  · subst e; exact ⟨fun _ => rfl, fun _ => rfl⟩
  · rw [ri_cx_p e]; exact ⟨fun z => absurd z (ri_m2 (by omega)), fun z => absurd z e⟩
theorem ri_cx_n {v : Nat} (h : v < 2 ^ 31) : (ri_cx v < 0) ↔ v = 0 := by
  by_cases e : v = 0
  · subst e; exact ⟨fun _ => rfl, fun _ => by decide⟩
  · rw [ri_cx_p e]; exact ⟨fun z => absurd z (nI_pos (by omega)), fun z => absurd z e⟩
theorem ri_cy_n {v : Nat} (h : v < 2 ^ 31) : (ri_cy v < 0) ↔ v = 0 := by
  by_cases e : v = 0
  · subst e; exact ⟨fun _ => rfl, fun _ => by decide⟩
  · rw [ri_cy_p e]; exact ⟨fun z => absurd z (nI_pos (by omega)), fun z => absurd z e⟩
theorem ri_cy_g {v : Nat} (h : v < 2 ^ 31) : (0 ≤ ri_cy v) ↔ ¬ v = 0 := by
  by_cases e : v = 0
  · subst e; exact ⟨fun z => absurd z (by decide), fun z => absurd rfl z⟩
  · rw [ri_cy_p e]; exact ⟨fun _ => e, fun _ => nI_pos' (by omega)⟩
theorem ri_cx_e {v m : Nat} (h : v < 2 ^ 31) (hm : m < 2 ^ 31) : (ri_cx v = nI m) ↔ v = m + 1 := by
  by_cases e : v = 0
  · subst e; exact ⟨fun z => absurd z.symm (ri_m2 hm), fun z => absurd z (by omega)⟩
  · rw [ri_cx_p e, nI_eq (by omega) hm]; omega
theorem ri_cy_e {v m : Nat} (h : v < 2 ^ 31) (hm : m < 2 ^ 31) : (ri_cy v = nI m) ↔ v = m + 1 := by
  by_cases e : v = 0
  · subst e; exact ⟨fun z => absurd z.symm (ri_m1 hm), fun z => absurd z (by omega)⟩
  · rw [ri_cy_p e, nI_eq (by omega) hm]; omega
theorem ri_cy_ee {v m : Nat} (h : v < 2 ^ 31) (hm : m < 2 ^ 31) : (ri_cy v = ri_cy m) ↔ v = m := by
  by_cases e : m = 0
  · subst e
    by_cases e2 : v = 0
    · subst e2; exact ⟨fun _ => rfl, fun _ => rfl⟩
    · rw [ri_cy_p e2]; exact ⟨fun z => absurd z (ri_m1 (by omega)), fun z => absurd z e2⟩
  · rw [ri_cy_p e, ri_cy_e h (by omega)]; omega
theorem ri_mul5 (a : Nat) : nI a * 5 = nI (5 * a) := by rw [Nat.mul_comm]; exact pk_mul a 5
theorem ri_mul5' (a : Nat) : 5 * nI a = nI (5 * a) := pk_mul 5 a
theorem ri_mul2 (a : Nat) : nI a * 2 = nI (2 * a) := by rw [Nat.mul_comm]; exact pk_mul a 2
theorem ri_mul2' (a : Nat) : 2 * nI a = nI (2 * a) := pk_mul 2 a
theorem ri_add5 (a : Nat) : nI a + 5 = nI (a + 5) := nI_add a 5
theorem ri_div2 {a : Nat} (h : a < 2 ^ 31) : nI a / 2 = nI (a / 2) := pk_div (d := 2) h (by decide) (by decide)
theorem ri_rem2 {a : Nat} (h : a < 2 ^ 31) : nI a - nI a / 2 * 2 = nI (a % 2) := pk_rem (d := 2) h (by decide) (by decide)
theorem ri_sub1 {a : Nat} (h : 1 ≤ a) : nI a - 1 = nI (a - 1) := pk_sub (b := 1) h
theorem ri_four {a : Nat} (h : a ≤ 4) : (4 : Int32) - nI a = nI (4 - a) := pk_sub (a := 4) h
theorem ri_two : ((2 : Int32) = 0) ↔ False := by decide
theorem ri_01 : ((0 : Int32) = 1) ↔ False := by decide
theorem ri_10 : ((1 : Int32) = 0) ↔ False := by decide
def ri_op (e : Nat) : Nat := if e % 2 = 0 then e + 1 else e - 1
theorem ri_op_x : ∀ e, e < 20 → nI e ^^^ 1 = nI (ri_op e) := by decide +kernel
theorem ri_op_lt {e : Nat} (h : e < 20) : ri_op e < 20 := by unfold ri_op; split <;> omega
theorem ri_op_d (e : Nat) : ri_op e / 2 = e / 2 := by unfold ri_op; split <;> omega
theorem ri_s31 : ∀ s, s < 32 → ((nI s &&& 31).toBitVec.smod 32).toNat = s := by decide +kernel
theorem ri_shr {n s : Nat} (hn : n < 2 ^ 31) (hs : s < 32) : nI n >>> (nI s &&& 31) = nI (n / 2 ^ s) := pk_shrN hn _ s (ri_s31 s hs)
theorem ri_shl {n s : Nat} (hs : s < 32) (h : n * 2 ^ s < 2 ^ 32) : nI n <<< (nI s &&& 31) = nI (n * 2 ^ s) := pk_shlN _ s (ri_s31 s hs) h
theorem ri_sh1 {s : Nat} (hs : s < 31) : (1 : Int32) <<< (nI s &&& 31) = nI (2 ^ s) := by
  have h : 2 ^ s < 2 ^ 32 := Nat.pow_lt_pow_right (by decide) (by omega)
  have := ri_shl (n := 1) (s := s) (by omega) (by omega)
  rw [Nat.one_mul] at this
  exact this
theorem ri_a1 {n : Nat} (h : n < 2 ^ 31) : nI n &&& 1 = nI (n % 2) := pk_andN (by omega) 1 (by decide)
theorem ri_a3 {n : Nat} (h : n < 2 ^ 31) : nI n &&& 3 = nI (n % 4) := pk_andN (by omega) 2 (by decide)
theorem ri_and (a b : Nat) : nI a &&& nI b = nI (a &&& b) := nx_and a b
theorem ri_or {a b : Nat} (ha : a < 2 ^ 31) (hb : b < 2 ^ 31) : nI a ||| nI b = nI (a ||| b) := by
  apply Int32.toBitVec_inj.mp
  apply BitVec.eq_of_toNat_eq
  have hc : a ||| b < 2 ^ 31 := Nat.or_lt_two_pow ha hb
  rw [Int32.toBitVec_or, BitVec.toNat_or, pk_tn (by omega), pk_tn (by omega), pk_tn (by omega)]
/-! bounded searches -/
def ri_ba (f : Nat → Bool) : Nat → Bool
  | 0 => false
  | n + 1 => ri_ba f n || f n
theorem ri_ba_t {f : Nat → Bool} {n : Nat} : ri_ba f n = true ↔ ∃ i, i < n ∧ f i = true := by
  induction n with
  | zero => exact ⟨fun z => absurd z (by simp [ri_ba]), fun ⟨i, h, _⟩ => absurd h (by omega)⟩
  | succ n ih =>
    simp only [ri_ba, Bool.or_eq_true, ih]
    constructor
    · rintro (⟨i, h, e⟩ | e)
      · exact ⟨i, by omega, e⟩
      · exact ⟨n, by omega, e⟩
    · rintro ⟨i, h, e⟩
      by_cases z : i = n
      · subst z; exact Or.inr e
      · exact Or.inl ⟨i, by omega, e⟩
theorem ri_ba_f {f : Nat → Bool} {n : Nat} : ri_ba f n = false ↔ ∀ i, i < n → f i = false := by
  constructor
  · intro h i hi
    cases e : f i with
    | false => rfl
    | true => rw [ri_ba_t.mpr ⟨i, hi, e⟩] at h; exact absurd h (by decide)
  · intro h
    cases e : ri_ba f n with
    | false => rfl
    | true =>
      obtain ⟨i, hi, z⟩ := ri_ba_t.mp e
      rw [h i hi] at z; exact absurd z (by decide)
theorem ri_ba_c {f g : Nat → Bool} {n : Nat} (h : ∀ i, i < n → f i = g i) : ri_ba f n = ri_ba g n := by
  induction n with
  | zero => rfl
  | succ n ih => simp only [ri_ba]; rw [ih (fun i hi => h i (by omega)), h n (by omega)]
theorem ri_beq {a b : Bool} (h : a = true ↔ b = true) : a = b := by
  cases a <;> cases b <;> simp_all
theorem ri_fo (W : Nat → Nat → Prop) (n : Nat) (he : ∀ k, W (k + 1) n) (hs : ∀ k i, i < n → W k (i + 1) → W (k + 1) i) : ∃ k, W k 0 := by
  have key : ∀ d i, i + d = n → W (d + 1) i := by
    intro d
    induction d with
    | zero => intro i hi; have e : i = n := by omega
              subst e; exact he 0
    | succ d ih => intro i hi; exact hs _ i (by omega) (ih (i + 1) (by omega))
  exact ⟨n + 1, key n 0 (by omega)⟩
theorem ri_sc (W : Nat → Nat → Prop) (P0 P1 : Prop) (f : Nat → Bool) (n : Nat) (he : ∀ k, P0 → W (k + 1) n) (hh : ∀ k i, i < n → f i = true → P1 → W (k + 1) i) (hs : ∀ k i, i < n → f i = false → W k (i + 1) → W (k + 1) i) (h0 : ri_ba f n = false → P0) (h1 : ri_ba f n = true → P1) : ∃ k, W k 0 := by
  have key : ∀ d i, i + d = n → (∀ j, j < i → f j = false) → W (d + 1) i := by
    intro d
    induction d with
    | zero => intro i hi hj; have e : i = n := by omega
              subst e; exact he 0 (h0 (ri_ba_f.mpr hj))
    | succ d ih =>
      intro i hi hj
      cases e : f i with
      | true => exact hh _ i (by omega) e (h1 (ri_ba_t.mpr ⟨i, by omega, e⟩))
      | false =>
        refine hs _ i (by omega) e (ih (i + 1) (by omega) ?_)
        intro j hj2
        by_cases z : j = i
        · subst z; exact e
        · exact hj j (by omega)
  exact ⟨n + 1, key n 0 (by omega) (fun j hj => absurd hj (by omega))⟩
theorem ri_scB (W : Nat → Nat → Prop) (post : Int32 → Prop) (f : Nat → Bool) (n : Nat) (h : post (ri_B (ri_ba f n))) (he : ∀ k, post 0 → W (k + 1) n) (hh : ∀ k i, i < n → f i = true → post 1 → W (k + 1) i) (hs : ∀ k i, i < n → f i = false → W k (i + 1) → W (k + 1) i) : ∃ k, W k 0 :=
  ri_sc W (post 0) (post 1) f n he hh hs (fun e => by rw [e] at h; exact h) (fun e => by rw [e] at h; exact h)
/-! the first that is so, coded: 0 none, m + 1 -/
def ri_ff (f : Nat → Bool) : Nat → Nat
  | 0 => 0
  | n + 1 => if ri_ff f n = 0 then (if f n = true then n + 1 else 0) else ri_ff f n
theorem ri_ff_0 {f : Nat → Bool} {n : Nat} (h : ∀ i, i < n → f i = false) : ri_ff f n = 0 := by
  induction n with
  | zero => rfl
  | succ n ih => simp only [ri_ff]; rw [ih (fun i hi => h i (by omega)), h n (by omega)]; rfl
theorem ri_ff_s {f : Nat → Bool} {m : Nat} (hm : f m = true) (h : ∀ i, i < m → f i = false) : ∀ n, m < n → ri_ff f n = m + 1 := by
  intro n
  induction n with
  | zero => intro z; omega
  | succ n ih =>
    intro z
    simp only [ri_ff]
    by_cases e : m = n
    · subst e; rw [ri_ff_0 h, hm]; rfl
    · rw [ih (by omega)]; rfl
theorem ri_ff_i {f : Nat → Bool} : ∀ n, ri_ff f n ≠ 0 → ri_ff f n - 1 < n ∧ f (ri_ff f n - 1) = true := by
  intro n
  induction n with
  | zero => intro h; exact absurd rfl h
  | succ n ih =>
    intro h
    simp only [ri_ff] at h ⊢
    by_cases e : ri_ff f n = 0
    · rw [if_pos e] at h ⊢
      by_cases e2 : f n = true
      · rw [if_pos e2]; exact ⟨by omega, e2⟩
      · rw [if_neg e2] at h; exact absurd rfl h
    · rw [if_neg e] at h ⊢
      exact ⟨by have := (ih e).1; omega, (ih e).2⟩
theorem ri_ff_c {f g : Nat → Bool} {n : Nat} (h : ∀ i, i < n → f i = g i) : ri_ff f n = ri_ff g n := by
  induction n with
  | zero => rfl
  | succ n ih => simp only [ri_ff]; rw [ih (fun i hi => h i (by omega)), h n (by omega)]
theorem ri_sf (W : Nat → Nat → Prop) (P : Nat → Prop) (f : Nat → Bool) (n : Nat) (h : P (ri_ff f n)) (he : ∀ k, P 0 → W (k + 1) n) (hh : ∀ k i, i < n → f i = true → P (i + 1) → W (k + 1) i) (hs : ∀ k i, i < n → f i = false → W k (i + 1) → W (k + 1) i) : ∃ k, W k 0 := by
  have key : ∀ d i, i + d = n → (∀ j, j < i → f j = false) → W (d + 1) i := by
    intro d
    induction d with
    | zero => intro i hi hj; have e : i = n := by omega
              subst e; refine he 0 ?_; rw [ri_ff_0 hj] at h; exact h
    | succ d ih =>
      intro i hi hj
      cases e : f i with
      | true => refine hh _ i (by omega) e ?_; rw [ri_ff_s e hj n (by omega)] at h; exact h
      | false =>
        refine hs _ i (by omega) e (ih (i + 1) (by omega) ?_)
        intro j hj2
        by_cases z : j = i
        · subst z; exact e
        · exact hj j (by omega)
  exact ⟨n + 1, key n 0 (by omega) (fun j hj => absurd hj (by omega))⟩
/-! counts -/
def ri_cn (f : Nat → Bool) : Nat → Nat
  | 0 => 0
  | n + 1 => ri_cn f n + (if f n = true then 1 else 0)
theorem ri_cn_c {f g : Nat → Bool} {n : Nat} (h : ∀ i, i < n → f i = g i) : ri_cn f n = ri_cn g n := by
  induction n with
  | zero => rfl
  | succ n ih => simp only [ri_cn]; rw [ih (fun i hi => h i (by omega)), h n (by omega)]
theorem ri_cn_m {f : Nat → Bool} {a : Nat} : ∀ b, a ≤ b → ri_cn f a ≤ ri_cn f b := by
  intro b
  induction b with
  | zero => intro h; have e : a = 0 := by omega
            subst e; exact Nat.le_refl _
  | succ b ih =>
    intro h
    by_cases e : a = b + 1
    · subst e; exact Nat.le_refl _
    · have := ih (by omega); simp only [ri_cn]; omega
theorem ri_cn_l {f : Nat → Bool} {a b : Nat} (h : a < b) (hf : f a = true) : ri_cn f a < ri_cn f b := by
  have := ri_cn_m (f := f) (a := a + 1) b (by omega)
  simp only [ri_cn, hf, if_true] at this
  omega
theorem ri_cn_n (f : Nat → Bool) : ∀ n, ri_cn f n ≤ n := by
  intro n
  induction n with
  | zero => exact Nat.le_refl _
  | succ n ih => simp only [ri_cn]; split <;> omega
theorem ri_cn_x {f : Nat → Bool} {k : Nat} : ∀ n, k < ri_cn f n → ∃ i, i < n ∧ f i = true ∧ ri_cn f i = k := by
  intro n
  induction n with
  | zero => intro h; exact absurd h (by simp [ri_cn])
  | succ n ih =>
    intro h
    by_cases e : k < ri_cn f n
    · obtain ⟨i, h1, h2⟩ := ih e; exact ⟨i, by omega, h2⟩
    · simp only [ri_cn] at h
      by_cases z : f n = true
      · rw [if_pos z] at h; exact ⟨n, by omega, z, by omega⟩
      · rw [if_neg z] at h; omega
end
section
abbrev sX (J R : Nat) (fo ft ct ej ps : Nat → Nat) (sg : Nat → Bool) (rs rl sj se : Nat → Nat) (cb : Nat → Int32) (st : Nat → Bool) (wt : Nat → Nat) (hd : Nat → Bool) (lk hg un dn : Nat → Nat) : SX := ((nI J), (nI R), (ri_n fo), (ri_n ft), (ri_n ct), (ri_n ej), (ri_n ps), (ri_b sg), (ri_n rs), (ri_n rl), (ri_n sj), (ri_n se), cb, (ri_b st), (ri_n wt), (ri_b hd), (ri_x lk), (ri_x hg), (ri_x un), (ri_n dn))
abbrev sY (J R : Nat) (fo ft : Nat → Nat) (sg : Nat → Bool) (ps rs rl sj se : Nat → Nat) (st : Nat → Bool) (wt : Nat → Nat) (hd : Nat → Bool) (lk hg un dn : Nat → Nat) (rv mt nx : Nat → Int32) : SY := ((nI J), (nI R), (ri_n fo), (ri_n ft), (ri_b sg), (ri_n ps), (ri_n rs), (ri_n rl), (ri_n sj), (ri_n se), (ri_b st), (ri_n wt), (ri_b hd), (ri_x lk), (ri_y hg), (ri_y un), (ri_n dn), rv, mt, nx)
section
variable {J R : Nat} {fo ft ct ej ps : Nat → Nat} {sg : Nat → Bool} {rs rl sj se : Nat → Nat} {cb : Nat → Int32} {st : Nat → Bool} {wt : Nat → Nat} {hd : Nat → Bool} {lk hg un dn : Nat → Nat} {rv mt nx : Nat → Int32}
/-! the pure pictures -/
def ri_occ (hg : Nat → Nat) (s : Nat) : Bool := ri_ba (fun t => decide (hg t ≠ 0) && decide ((hg t - 1) / 2 = s)) 3
def ri_hfor (hg : Nat → Nat) (a : Nat) : Bool := ri_ba (fun t => decide (hg t = a + 1)) 3
def ri_trav (un : Nat → Nat) (r : Nat) : Bool := ri_ba (fun t => decide (un t = r + 1)) 3
def ri_at (fo ft : Nat → Nat) (a j : Nat) : Bool := decide (fo j = a) || decide (ft j = a)
def ri_far (fo ft : Nat → Nat) (j a : Nat) : Nat := if fo j = a then ft j else fo j
def ri_busy (R : Nat) (st : Nat → Bool) (hg : Nat → Nat) : Bool := ri_ba (fun t => decide (hg t ≠ 0)) 3 || ri_ba st R
/-! X, what only reads -/
theorem rx_occ {post : Int32 → Prop} {s : Nat} (hs : s < 100) (HG : ∀ t, hg t ≤ 20) (h : post (ri_B (ri_occ hg s))) : wpX_isOccupied post (sX J R fo ft ct ej ps sg rs rl sj se cb st wt hd lk hg un dn) (nI s) := by
  refine ri_scB (fun k i => wX_isOccupied_2 post (nI s) (nI J) (nI R) (ri_n fo) (ri_n ft) (ri_n ct) (ri_n ej) (ri_n ps) (ri_b sg) (ri_n rs) (ri_n rl) (ri_n sj) (ri_n se) cb (ri_b st) (ri_n wt) (ri_b hd) (ri_x lk) (ri_x hg) (ri_x un) (ri_n dn) k (nI i)) post _ 3 h ?_ ?_ ?_
  · intro k p
    simp only [wX_isOccupied_2]
    simp (disch := omega) only [nI_clamp, ri_n_ap, ri_b_ap, ri_x_ap, ri_y_ap, ri_in, ri_B0, ri_B1, ri_nm2, ri_nm1, ri_cx_z, ri_cx_n, ri_cy_n, ri_cy_g, ri_cx_e, ri_cy_e, nI_1, nI_add, ri_mul5, ri_mul5', ri_mul2, ri_mul2', ri_add5, ri_div2, ri_two, ri_01, ri_10, nI_eq, nI_leI, nI_ltI, forall_eq, not_false_eq_true, true_and, and_true, not_true_eq_false, false_implies, implies_true, true_implies, ri_le0, ri_ge0, ri_lt0, ri_gt0, ri_eq0, ri_le1, ri_ge1, ri_lt1, ri_gt1, ri_eq1, ri_le2, ri_ge2, ri_lt2, ri_gt2, ri_eq2, ri_le3, ri_ge3, ri_lt3, ri_gt3, ri_eq3, ri_le4, ri_ge4, ri_lt4, ri_gt4, ri_eq4, ri_le5, ri_ge5, ri_lt5, ri_gt5, ri_eq5, ri_le10, ri_ge10, ri_lt10, ri_gt10, ri_eq10, ri_le12, ri_ge12, ri_lt12, ri_gt12, ri_eq12, ri_le16, ri_ge16, ri_lt16, ri_gt16, ri_eq16, ri_le20, ri_ge20, ri_lt20, ri_gt20, ri_eq20, ri_le32, ri_ge32, ri_lt32, ri_gt32, ri_eq32, ri_le80, ri_ge80, ri_lt80, ri_gt80, ri_eq80]
    grind
  · intro k i hi hf p
    have := HG i
    simp only [Bool.and_eq_true, decide_eq_true_eq] at hf
    simp only [wX_isOccupied_2]
    simp (disch := omega) only [nI_clamp, ri_x_ap, ri_cx_p hf.1]
    simp (disch := omega) only [nI_clamp, ri_n_ap, ri_b_ap, ri_x_ap, ri_y_ap, ri_in, ri_B0, ri_B1, ri_nm2, ri_nm1, ri_cx_z, ri_cx_n, ri_cy_n, ri_cy_g, ri_cx_e, ri_cy_e, nI_1, nI_add, ri_mul5, ri_mul5', ri_mul2, ri_mul2', ri_add5, ri_div2, ri_two, ri_01, ri_10, nI_eq, nI_leI, nI_ltI, forall_eq, not_false_eq_true, true_and, and_true, not_true_eq_false, false_implies, implies_true, true_implies, ri_le0, ri_ge0, ri_lt0, ri_gt0, ri_eq0, ri_le1, ri_ge1, ri_lt1, ri_gt1, ri_eq1, ri_le2, ri_ge2, ri_lt2, ri_gt2, ri_eq2, ri_le3, ri_ge3, ri_lt3, ri_gt3, ri_eq3, ri_le4, ri_ge4, ri_lt4, ri_gt4, ri_eq4, ri_le5, ri_ge5, ri_lt5, ri_gt5, ri_eq5, ri_le10, ri_ge10, ri_lt10, ri_gt10, ri_eq10, ri_le12, ri_ge12, ri_lt12, ri_gt12, ri_eq12, ri_le16, ri_ge16, ri_lt16, ri_gt16, ri_eq16, ri_le20, ri_ge20, ri_lt20, ri_gt20, ri_eq20, ri_le32, ri_ge32, ri_lt32, ri_gt32, ri_eq32, ri_le80, ri_ge80, ri_lt80, ri_gt80, ri_eq80]
    grind
  · intro k i hi hf p
    have := HG i
    simp only [wX_isOccupied_2]
    by_cases z : hg i = 0
    · simp (disch := omega) only [nI_clamp, ri_n_ap, ri_b_ap, ri_x_ap, ri_y_ap, ri_in, ri_B0, ri_B1, ri_nm2, ri_nm1, ri_cx_z, ri_cx_n, ri_cy_n, ri_cy_g, ri_cx_e, ri_cy_e, nI_1, nI_add, ri_mul5, ri_mul5', ri_mul2, ri_mul2', ri_add5, ri_div2, ri_two, ri_01, ri_10, nI_eq, nI_leI, nI_ltI, forall_eq, not_false_eq_true, true_and, and_true, not_true_eq_false, false_implies, implies_true, true_implies, ri_le0, ri_ge0, ri_lt0, ri_gt0, ri_eq0, ri_le1, ri_ge1, ri_lt1, ri_gt1, ri_eq1, ri_le2, ri_ge2, ri_lt2, ri_gt2, ri_eq2, ri_le3, ri_ge3, ri_lt3, ri_gt3, ri_eq3, ri_le4, ri_ge4, ri_lt4, ri_gt4, ri_eq4, ri_le5, ri_ge5, ri_lt5, ri_gt5, ri_eq5, ri_le10, ri_ge10, ri_lt10, ri_gt10, ri_eq10, ri_le12, ri_ge12, ri_lt12, ri_gt12, ri_eq12, ri_le16, ri_ge16, ri_lt16, ri_gt16, ri_eq16, ri_le20, ri_ge20, ri_lt20, ri_gt20, ri_eq20, ri_le32, ri_ge32, ri_lt32, ri_gt32, ri_eq32, ri_le80, ri_ge80, ri_lt80, ri_gt80, ri_eq80]
      grind
    · simp only [z, ne_eq, not_false_eq_true, decide_true, Bool.true_and, decide_eq_false_iff_not] at hf
      simp (disch := omega) only [nI_clamp, ri_x_ap, ri_cx_p z]
      simp (disch := omega) only [nI_clamp, ri_n_ap, ri_b_ap, ri_x_ap, ri_y_ap, ri_in, ri_B0, ri_B1, ri_nm2, ri_nm1, ri_cx_z, ri_cx_n, ri_cy_n, ri_cy_g, ri_cx_e, ri_cy_e, nI_1, nI_add, ri_mul5, ri_mul5', ri_mul2, ri_mul2', ri_add5, ri_div2, ri_two, ri_01, ri_10, nI_eq, nI_leI, nI_ltI, forall_eq, not_false_eq_true, true_and, and_true, not_true_eq_false, false_implies, implies_true, true_implies, ri_le0, ri_ge0, ri_lt0, ri_gt0, ri_eq0, ri_le1, ri_ge1, ri_lt1, ri_gt1, ri_eq1, ri_le2, ri_ge2, ri_lt2, ri_gt2, ri_eq2, ri_le3, ri_ge3, ri_lt3, ri_gt3, ri_eq3, ri_le4, ri_ge4, ri_lt4, ri_gt4, ri_eq4, ri_le5, ri_ge5, ri_lt5, ri_gt5, ri_eq5, ri_le10, ri_ge10, ri_lt10, ri_gt10, ri_eq10, ri_le12, ri_ge12, ri_lt12, ri_gt12, ri_eq12, ri_le16, ri_ge16, ri_lt16, ri_gt16, ri_eq16, ri_le20, ri_ge20, ri_lt20, ri_gt20, ri_eq20, ri_le32, ri_ge32, ri_lt32, ri_gt32, ri_eq32, ri_le80, ri_ge80, ri_lt80, ri_gt80, ri_eq80]
      grind
theorem rx_hfor {post : Int32 → Prop} {a : Nat} (ha : a < 100) (HG : ∀ t, hg t ≤ 20) (h : post (ri_B (ri_hfor hg a))) : wpX_isHeadedFor post (sX J R fo ft ct ej ps sg rs rl sj se cb st wt hd lk hg un dn) (nI a) := by
  refine ri_scB (fun k i => wX_isHeadedFor_2 post (nI a) (nI J) (nI R) (ri_n fo) (ri_n ft) (ri_n ct) (ri_n ej) (ri_n ps) (ri_b sg) (ri_n rs) (ri_n rl) (ri_n sj) (ri_n se) cb (ri_b st) (ri_n wt) (ri_b hd) (ri_x lk) (ri_x hg) (ri_x un) (ri_n dn) k (nI i)) post _ 3 h ?_ ?_ ?_
  · intro k p
    simp only [wX_isHeadedFor_2]
    simp (disch := omega) only [nI_clamp, ri_n_ap, ri_b_ap, ri_x_ap, ri_y_ap, ri_in, ri_B0, ri_B1, ri_nm2, ri_nm1, ri_cx_z, ri_cx_n, ri_cy_n, ri_cy_g, ri_cx_e, ri_cy_e, nI_1, nI_add, ri_mul5, ri_mul5', ri_mul2, ri_mul2', ri_add5, ri_div2, ri_two, ri_01, ri_10, nI_eq, nI_leI, nI_ltI, forall_eq, not_false_eq_true, true_and, and_true, not_true_eq_false, false_implies, implies_true, true_implies, ri_le0, ri_ge0, ri_lt0, ri_gt0, ri_eq0, ri_le1, ri_ge1, ri_lt1, ri_gt1, ri_eq1, ri_le2, ri_ge2, ri_lt2, ri_gt2, ri_eq2, ri_le3, ri_ge3, ri_lt3, ri_gt3, ri_eq3, ri_le4, ri_ge4, ri_lt4, ri_gt4, ri_eq4, ri_le5, ri_ge5, ri_lt5, ri_gt5, ri_eq5, ri_le10, ri_ge10, ri_lt10, ri_gt10, ri_eq10, ri_le12, ri_ge12, ri_lt12, ri_gt12, ri_eq12, ri_le16, ri_ge16, ri_lt16, ri_gt16, ri_eq16, ri_le20, ri_ge20, ri_lt20, ri_gt20, ri_eq20, ri_le32, ri_ge32, ri_lt32, ri_gt32, ri_eq32, ri_le80, ri_ge80, ri_lt80, ri_gt80, ri_eq80]
    grind
  · intro k i hi hf p
    have := HG i
    simp only [wX_isHeadedFor_2]
    simp (disch := omega) only [nI_clamp, ri_n_ap, ri_b_ap, ri_x_ap, ri_y_ap, ri_in, ri_B0, ri_B1, ri_nm2, ri_nm1, ri_cx_z, ri_cx_n, ri_cy_n, ri_cy_g, ri_cx_e, ri_cy_e, nI_1, nI_add, ri_mul5, ri_mul5', ri_mul2, ri_mul2', ri_add5, ri_div2, ri_two, ri_01, ri_10, nI_eq, nI_leI, nI_ltI, forall_eq, not_false_eq_true, true_and, and_true, not_true_eq_false, false_implies, implies_true, true_implies, ri_le0, ri_ge0, ri_lt0, ri_gt0, ri_eq0, ri_le1, ri_ge1, ri_lt1, ri_gt1, ri_eq1, ri_le2, ri_ge2, ri_lt2, ri_gt2, ri_eq2, ri_le3, ri_ge3, ri_lt3, ri_gt3, ri_eq3, ri_le4, ri_ge4, ri_lt4, ri_gt4, ri_eq4, ri_le5, ri_ge5, ri_lt5, ri_gt5, ri_eq5, ri_le10, ri_ge10, ri_lt10, ri_gt10, ri_eq10, ri_le12, ri_ge12, ri_lt12, ri_gt12, ri_eq12, ri_le16, ri_ge16, ri_lt16, ri_gt16, ri_eq16, ri_le20, ri_ge20, ri_lt20, ri_gt20, ri_eq20, ri_le32, ri_ge32, ri_lt32, ri_gt32, ri_eq32, ri_le80, ri_ge80, ri_lt80, ri_gt80, ri_eq80]
    grind
  · intro k i hi hf p
    have := HG i
    simp only [wX_isHeadedFor_2]
    simp (disch := omega) only [nI_clamp, ri_n_ap, ri_b_ap, ri_x_ap, ri_y_ap, ri_in, ri_B0, ri_B1, ri_nm2, ri_nm1, ri_cx_z, ri_cx_n, ri_cy_n, ri_cy_g, ri_cx_e, ri_cy_e, nI_1, nI_add, ri_mul5, ri_mul5', ri_mul2, ri_mul2', ri_add5, ri_div2, ri_two, ri_01, ri_10, nI_eq, nI_leI, nI_ltI, forall_eq, not_false_eq_true, true_and, and_true, not_true_eq_false, false_implies, implies_true, true_implies, ri_le0, ri_ge0, ri_lt0, ri_gt0, ri_eq0, ri_le1, ri_ge1, ri_lt1, ri_gt1, ri_eq1, ri_le2, ri_ge2, ri_lt2, ri_gt2, ri_eq2, ri_le3, ri_ge3, ri_lt3, ri_gt3, ri_eq3, ri_le4, ri_ge4, ri_lt4, ri_gt4, ri_eq4, ri_le5, ri_ge5, ri_lt5, ri_gt5, ri_eq5, ri_le10, ri_ge10, ri_lt10, ri_gt10, ri_eq10, ri_le12, ri_ge12, ri_lt12, ri_gt12, ri_eq12, ri_le16, ri_ge16, ri_lt16, ri_gt16, ri_eq16, ri_le20, ri_ge20, ri_lt20, ri_gt20, ri_eq20, ri_le32, ri_ge32, ri_lt32, ri_gt32, ri_eq32, ri_le80, ri_ge80, ri_lt80, ri_gt80, ri_eq80]
    grind
theorem rx_trav {post : Int32 → Prop} {r : Nat} (hr : r < 100) (UN : ∀ t, un t ≤ 16) (h : post (ri_B (ri_trav un r))) : wpX_isTravelled post (sX J R fo ft ct ej ps sg rs rl sj se cb st wt hd lk hg un dn) (nI r) := by
  refine ri_scB (fun k i => wX_isTravelled_2 post (nI r) (nI J) (nI R) (ri_n fo) (ri_n ft) (ri_n ct) (ri_n ej) (ri_n ps) (ri_b sg) (ri_n rs) (ri_n rl) (ri_n sj) (ri_n se) cb (ri_b st) (ri_n wt) (ri_b hd) (ri_x lk) (ri_x hg) (ri_x un) (ri_n dn) k (nI i)) post _ 3 h ?_ ?_ ?_
  · intro k p
    simp only [wX_isTravelled_2]
    simp (disch := omega) only [nI_clamp, ri_n_ap, ri_b_ap, ri_x_ap, ri_y_ap, ri_in, ri_B0, ri_B1, ri_nm2, ri_nm1, ri_cx_z, ri_cx_n, ri_cy_n, ri_cy_g, ri_cx_e, ri_cy_e, nI_1, nI_add, ri_mul5, ri_mul5', ri_mul2, ri_mul2', ri_add5, ri_div2, ri_two, ri_01, ri_10, nI_eq, nI_leI, nI_ltI, forall_eq, not_false_eq_true, true_and, and_true, not_true_eq_false, false_implies, implies_true, true_implies, ri_le0, ri_ge0, ri_lt0, ri_gt0, ri_eq0, ri_le1, ri_ge1, ri_lt1, ri_gt1, ri_eq1, ri_le2, ri_ge2, ri_lt2, ri_gt2, ri_eq2, ri_le3, ri_ge3, ri_lt3, ri_gt3, ri_eq3, ri_le4, ri_ge4, ri_lt4, ri_gt4, ri_eq4, ri_le5, ri_ge5, ri_lt5, ri_gt5, ri_eq5, ri_le10, ri_ge10, ri_lt10, ri_gt10, ri_eq10, ri_le12, ri_ge12, ri_lt12, ri_gt12, ri_eq12, ri_le16, ri_ge16, ri_lt16, ri_gt16, ri_eq16, ri_le20, ri_ge20, ri_lt20, ri_gt20, ri_eq20, ri_le32, ri_ge32, ri_lt32, ri_gt32, ri_eq32, ri_le80, ri_ge80, ri_lt80, ri_gt80, ri_eq80]
    grind
  · intro k i hi hf p
    have := UN i
    simp only [wX_isTravelled_2]
    simp (disch := omega) only [nI_clamp, ri_n_ap, ri_b_ap, ri_x_ap, ri_y_ap, ri_in, ri_B0, ri_B1, ri_nm2, ri_nm1, ri_cx_z, ri_cx_n, ri_cy_n, ri_cy_g, ri_cx_e, ri_cy_e, nI_1, nI_add, ri_mul5, ri_mul5', ri_mul2, ri_mul2', ri_add5, ri_div2, ri_two, ri_01, ri_10, nI_eq, nI_leI, nI_ltI, forall_eq, not_false_eq_true, true_and, and_true, not_true_eq_false, false_implies, implies_true, true_implies, ri_le0, ri_ge0, ri_lt0, ri_gt0, ri_eq0, ri_le1, ri_ge1, ri_lt1, ri_gt1, ri_eq1, ri_le2, ri_ge2, ri_lt2, ri_gt2, ri_eq2, ri_le3, ri_ge3, ri_lt3, ri_gt3, ri_eq3, ri_le4, ri_ge4, ri_lt4, ri_gt4, ri_eq4, ri_le5, ri_ge5, ri_lt5, ri_gt5, ri_eq5, ri_le10, ri_ge10, ri_lt10, ri_gt10, ri_eq10, ri_le12, ri_ge12, ri_lt12, ri_gt12, ri_eq12, ri_le16, ri_ge16, ri_lt16, ri_gt16, ri_eq16, ri_le20, ri_ge20, ri_lt20, ri_gt20, ri_eq20, ri_le32, ri_ge32, ri_lt32, ri_gt32, ri_eq32, ri_le80, ri_ge80, ri_lt80, ri_gt80, ri_eq80]
    grind
  · intro k i hi hf p
    have := UN i
    simp only [wX_isTravelled_2]
    simp (disch := omega) only [nI_clamp, ri_n_ap, ri_b_ap, ri_x_ap, ri_y_ap, ri_in, ri_B0, ri_B1, ri_nm2, ri_nm1, ri_cx_z, ri_cx_n, ri_cy_n, ri_cy_g, ri_cx_e, ri_cy_e, nI_1, nI_add, ri_mul5, ri_mul5', ri_mul2, ri_mul2', ri_add5, ri_div2, ri_two, ri_01, ri_10, nI_eq, nI_leI, nI_ltI, forall_eq, not_false_eq_true, true_and, and_true, not_true_eq_false, false_implies, implies_true, true_implies, ri_le0, ri_ge0, ri_lt0, ri_gt0, ri_eq0, ri_le1, ri_ge1, ri_lt1, ri_gt1, ri_eq1, ri_le2, ri_ge2, ri_lt2, ri_gt2, ri_eq2, ri_le3, ri_ge3, ri_lt3, ri_gt3, ri_eq3, ri_le4, ri_ge4, ri_lt4, ri_gt4, ri_eq4, ri_le5, ri_ge5, ri_lt5, ri_gt5, ri_eq5, ri_le10, ri_ge10, ri_lt10, ri_gt10, ri_eq10, ri_le12, ri_ge12, ri_lt12, ri_gt12, ri_eq12, ri_le16, ri_ge16, ri_lt16, ri_gt16, ri_eq16, ri_le20, ri_ge20, ri_lt20, ri_gt20, ri_eq20, ri_le32, ri_ge32, ri_lt32, ri_gt32, ri_eq32, ri_le80, ri_ge80, ri_lt80, ri_gt80, ri_eq80]
    grind
theorem rx_far {post : Int32 → Prop} {j a : Nat} (hj : j < 12) (ha : a < 100) (FO : ∀ j, fo j < 20) (h : post (nI (ri_far fo ft j a))) : wpX_farEnd post (sX J R fo ft ct ej ps sg rs rl sj se cb st wt hd lk hg un dn) (nI j) (nI a) := by
  have := FO j
  unfold ri_far at h
  simp only [wpX_farEnd]
  simp (disch := omega) only [nI_clamp, ri_n_ap, ri_b_ap, ri_x_ap, ri_y_ap, ri_in, ri_B0, ri_B1, ri_nm2, ri_nm1, ri_cx_z, ri_cx_n, ri_cy_n, ri_cy_g, ri_cx_e, ri_cy_e, nI_1, nI_add, ri_mul5, ri_mul5', ri_mul2, ri_mul2', ri_add5, ri_div2, ri_two, ri_01, ri_10, nI_eq, nI_leI, nI_ltI, forall_eq, not_false_eq_true, true_and, and_true, not_true_eq_false, false_implies, implies_true, true_implies, ri_le0, ri_ge0, ri_lt0, ri_gt0, ri_eq0, ri_le1, ri_ge1, ri_lt1, ri_gt1, ri_eq1, ri_le2, ri_ge2, ri_lt2, ri_gt2, ri_eq2, ri_le3, ri_ge3, ri_lt3, ri_gt3, ri_eq3, ri_le4, ri_ge4, ri_lt4, ri_gt4, ri_eq4, ri_le5, ri_ge5, ri_lt5, ri_gt5, ri_eq5, ri_le10, ri_ge10, ri_lt10, ri_gt10, ri_eq10, ri_le12, ri_ge12, ri_lt12, ri_gt12, ri_eq12, ri_le16, ri_ge16, ri_lt16, ri_gt16, ri_eq16, ri_le20, ri_ge20, ri_lt20, ri_gt20, ri_eq20, ri_le32, ri_ge32, ri_lt32, ri_gt32, ri_eq32, ri_le80, ri_ge80, ri_lt80, ri_gt80, ri_eq80]
  grind
theorem rx_joined {post : Int32 → Prop} {a b : Nat} (ha : a < 20) (hb : b < 20) (CT : ∀ a, ct a ≤ 2) (EJ : ∀ i, ej i < 12) (FO : ∀ j, fo j < 20) (FT : ∀ j, ft j < 20) (h : post (ri_B (ri_ba (fun i => decide (ri_far fo ft (ej (2 * a + i)) a = b)) (ct a)))) : wpX_areJoined post (sX J R fo ft ct ej ps sg rs rl sj se cb st wt hd lk hg un dn) (nI a) (nI b) := by
  have hc := CT a
  have F : ∀ i, ri_far fo ft (ej (2 * a + i)) a < 20 := by
    intro i; unfold ri_far; split
    · exact FT _
    · exact FO _
  refine ri_scB (fun k i => wX_areJoined_2 post (nI a) (nI b) (nI J) (nI R) (ri_n fo) (ri_n ft) (ri_n ct) (ri_n ej) (ri_n ps) (ri_b sg) (ri_n rs) (ri_n rl) (ri_n sj) (ri_n se) cb (ri_b st) (ri_n wt) (ri_b hd) (ri_x lk) (ri_x hg) (ri_x un) (ri_n dn) k (nI i)) post _ (ct a) h ?_ ?_ ?_
  · intro k p
    simp only [wX_areJoined_2]
    simp (disch := omega) only [nI_clamp, ri_n_ap, ri_b_ap, ri_x_ap, ri_y_ap, ri_in, ri_B0, ri_B1, ri_nm2, ri_nm1, ri_cx_z, ri_cx_n, ri_cy_n, ri_cy_g, ri_cx_e, ri_cy_e, nI_1, nI_add, ri_mul5, ri_mul5', ri_mul2, ri_mul2', ri_add5, ri_div2, ri_two, ri_01, ri_10, nI_eq, nI_leI, nI_ltI, forall_eq, not_false_eq_true, true_and, and_true, not_true_eq_false, false_implies, implies_true, true_implies, ri_le0, ri_ge0, ri_lt0, ri_gt0, ri_eq0, ri_le1, ri_ge1, ri_lt1, ri_gt1, ri_eq1, ri_le2, ri_ge2, ri_lt2, ri_gt2, ri_eq2, ri_le3, ri_ge3, ri_lt3, ri_gt3, ri_eq3, ri_le4, ri_ge4, ri_lt4, ri_gt4, ri_eq4, ri_le5, ri_ge5, ri_lt5, ri_gt5, ri_eq5, ri_le10, ri_ge10, ri_lt10, ri_gt10, ri_eq10, ri_le12, ri_ge12, ri_lt12, ri_gt12, ri_eq12, ri_le16, ri_ge16, ri_lt16, ri_gt16, ri_eq16, ri_le20, ri_ge20, ri_lt20, ri_gt20, ri_eq20, ri_le32, ri_ge32, ri_lt32, ri_gt32, ri_eq32, ri_le80, ri_ge80, ri_lt80, ri_gt80, ri_eq80]
    grind
  · intro k i hi hf p
    have := F i
    have := EJ (2 * a + i)
    simp only [wX_areJoined_2]
    simp (disch := omega) only [nI_clamp, ri_n_ap, ri_b_ap, ri_x_ap, ri_y_ap, ri_in, ri_B0, ri_B1, ri_nm2, ri_nm1, ri_cx_z, ri_cx_n, ri_cy_n, ri_cy_g, ri_cx_e, ri_cy_e, nI_1, nI_add, ri_mul5, ri_mul5', ri_mul2, ri_mul2', ri_add5, ri_div2, ri_two, ri_01, ri_10, nI_eq, nI_leI, nI_ltI, forall_eq, not_false_eq_true, true_and, and_true, not_true_eq_false, false_implies, implies_true, true_implies, ri_le0, ri_ge0, ri_lt0, ri_gt0, ri_eq0, ri_le1, ri_ge1, ri_lt1, ri_gt1, ri_eq1, ri_le2, ri_ge2, ri_lt2, ri_gt2, ri_eq2, ri_le3, ri_ge3, ri_lt3, ri_gt3, ri_eq3, ri_le4, ri_ge4, ri_lt4, ri_gt4, ri_eq4, ri_le5, ri_ge5, ri_lt5, ri_gt5, ri_eq5, ri_le10, ri_ge10, ri_lt10, ri_gt10, ri_eq10, ri_le12, ri_ge12, ri_lt12, ri_gt12, ri_eq12, ri_le16, ri_ge16, ri_lt16, ri_gt16, ri_eq16, ri_le20, ri_ge20, ri_lt20, ri_gt20, ri_eq20, ri_le32, ri_ge32, ri_lt32, ri_gt32, ri_eq32, ri_le80, ri_ge80, ri_lt80, ri_gt80, ri_eq80]
    refine ⟨by omega, fun z => absurd z (by omega), fun _ => ⟨by omega, ?_⟩⟩
    refine rx_far (EJ _) (by omega) FO ?_
    simp (disch := omega) only [nI_clamp, ri_n_ap, ri_b_ap, ri_x_ap, ri_y_ap, ri_in, ri_B0, ri_B1, ri_nm2, ri_nm1, ri_cx_z, ri_cx_n, ri_cy_n, ri_cy_g, ri_cx_e, ri_cy_e, nI_1, nI_add, ri_mul5, ri_mul5', ri_mul2, ri_mul2', ri_add5, ri_div2, ri_two, ri_01, ri_10, nI_eq, nI_leI, nI_ltI, forall_eq, not_false_eq_true, true_and, and_true, not_true_eq_false, false_implies, implies_true, true_implies, ri_le0, ri_ge0, ri_lt0, ri_gt0, ri_eq0, ri_le1, ri_ge1, ri_lt1, ri_gt1, ri_eq1, ri_le2, ri_ge2, ri_lt2, ri_gt2, ri_eq2, ri_le3, ri_ge3, ri_lt3, ri_gt3, ri_eq3, ri_le4, ri_ge4, ri_lt4, ri_gt4, ri_eq4, ri_le5, ri_ge5, ri_lt5, ri_gt5, ri_eq5, ri_le10, ri_ge10, ri_lt10, ri_gt10, ri_eq10, ri_le12, ri_ge12, ri_lt12, ri_gt12, ri_eq12, ri_le16, ri_ge16, ri_lt16, ri_gt16, ri_eq16, ri_le20, ri_ge20, ri_lt20, ri_gt20, ri_eq20, ri_le32, ri_ge32, ri_lt32, ri_gt32, ri_eq32, ri_le80, ri_ge80, ri_lt80, ri_gt80, ri_eq80]
    grind
  · intro k i hi hf p
    have := F i
    have := EJ (2 * a + i)
    simp only [wX_areJoined_2]
    simp (disch := omega) only [nI_clamp, ri_n_ap, ri_b_ap, ri_x_ap, ri_y_ap, ri_in, ri_B0, ri_B1, ri_nm2, ri_nm1, ri_cx_z, ri_cx_n, ri_cy_n, ri_cy_g, ri_cx_e, ri_cy_e, nI_1, nI_add, ri_mul5, ri_mul5', ri_mul2, ri_mul2', ri_add5, ri_div2, ri_two, ri_01, ri_10, nI_eq, nI_leI, nI_ltI, forall_eq, not_false_eq_true, true_and, and_true, not_true_eq_false, false_implies, implies_true, true_implies, ri_le0, ri_ge0, ri_lt0, ri_gt0, ri_eq0, ri_le1, ri_ge1, ri_lt1, ri_gt1, ri_eq1, ri_le2, ri_ge2, ri_lt2, ri_gt2, ri_eq2, ri_le3, ri_ge3, ri_lt3, ri_gt3, ri_eq3, ri_le4, ri_ge4, ri_lt4, ri_gt4, ri_eq4, ri_le5, ri_ge5, ri_lt5, ri_gt5, ri_eq5, ri_le10, ri_ge10, ri_lt10, ri_gt10, ri_eq10, ri_le12, ri_ge12, ri_lt12, ri_gt12, ri_eq12, ri_le16, ri_ge16, ri_lt16, ri_gt16, ri_eq16, ri_le20, ri_ge20, ri_lt20, ri_gt20, ri_eq20, ri_le32, ri_ge32, ri_lt32, ri_gt32, ri_eq32, ri_le80, ri_ge80, ri_lt80, ri_gt80, ri_eq80]
    refine ⟨by omega, fun z => absurd z (by omega), fun _ => ⟨by omega, ?_⟩⟩
    refine rx_far (EJ _) (by omega) FO ?_
    simp (disch := omega) only [nI_clamp, ri_n_ap, ri_b_ap, ri_x_ap, ri_y_ap, ri_in, ri_B0, ri_B1, ri_nm2, ri_nm1, ri_cx_z, ri_cx_n, ri_cy_n, ri_cy_g, ri_cx_e, ri_cy_e, nI_1, nI_add, ri_mul5, ri_mul5', ri_mul2, ri_mul2', ri_add5, ri_div2, ri_two, ri_01, ri_10, nI_eq, nI_leI, nI_ltI, forall_eq, not_false_eq_true, true_and, and_true, not_true_eq_false, false_implies, implies_true, true_implies, ri_le0, ri_ge0, ri_lt0, ri_gt0, ri_eq0, ri_le1, ri_ge1, ri_lt1, ri_gt1, ri_eq1, ri_le2, ri_ge2, ri_lt2, ri_gt2, ri_eq2, ri_le3, ri_ge3, ri_lt3, ri_gt3, ri_eq3, ri_le4, ri_ge4, ri_lt4, ri_gt4, ri_eq4, ri_le5, ri_ge5, ri_lt5, ri_gt5, ri_eq5, ri_le10, ri_ge10, ri_lt10, ri_gt10, ri_eq10, ri_le12, ri_ge12, ri_lt12, ri_gt12, ri_eq12, ri_le16, ri_ge16, ri_lt16, ri_gt16, ri_eq16, ri_le20, ri_ge20, ri_lt20, ri_gt20, ri_eq20, ri_le32, ri_ge32, ri_lt32, ri_gt32, ri_eq32, ri_le80, ri_ge80, ri_lt80, ri_gt80, ri_eq80]
    grind
theorem rx_free {post : Int32 → Prop} (hR : R ≤ 16) (HG : ∀ t, hg t ≤ 20) (h : post (ri_B (!ri_busy R st hg))) : wpX_isYardFree post (sX J R fo ft ct ej ps sg rs rl sj se cb st wt hd lk hg un dn) := by
  have h2 : ri_ba (fun t => decide (hg t ≠ 0)) 3 = false → ∃ n, wX_isYardFree_28 post (nI J) (nI R) (ri_n fo) (ri_n ft) (ri_n ct) (ri_n ej) (ri_n ps) (ri_b sg) (ri_n rs) (ri_n rl) (ri_n sj) (ri_n se) cb (ri_b st) (ri_n wt) (ri_b hd) (ri_x lk) (ri_x hg) (ri_x un) (ri_n dn) n 0 := by
    intro z
    rw [ri_busy, z, Bool.false_or] at h
    refine ri_sc (fun k i => wX_isYardFree_28 post (nI J) (nI R) (ri_n fo) (ri_n ft) (ri_n ct) (ri_n ej) (ri_n ps) (ri_b sg) (ri_n rs) (ri_n rl) (ri_n sj) (ri_n se) cb (ri_b st) (ri_n wt) (ri_b hd) (ri_x lk) (ri_x hg) (ri_x un) (ri_n dn) k (nI i)) (post 1) (post 0) st R ?_ ?_ ?_ (fun e => by rw [e] at h; exact h) (fun e => by rw [e] at h; exact h)
    · intro k p
      simp only [wX_isYardFree_28]
      simp (disch := omega) only [nI_clamp, ri_n_ap, ri_b_ap, ri_x_ap, ri_y_ap, ri_in, ri_B0, ri_B1, ri_nm2, ri_nm1, ri_cx_z, ri_cx_n, ri_cy_n, ri_cy_g, ri_cx_e, ri_cy_e, nI_1, nI_add, ri_mul5, ri_mul5', ri_mul2, ri_mul2', ri_add5, ri_div2, ri_two, ri_01, ri_10, nI_eq, nI_leI, nI_ltI, forall_eq, not_false_eq_true, true_and, and_true, not_true_eq_false, false_implies, implies_true, true_implies, ri_le0, ri_ge0, ri_lt0, ri_gt0, ri_eq0, ri_le1, ri_ge1, ri_lt1, ri_gt1, ri_eq1, ri_le2, ri_ge2, ri_lt2, ri_gt2, ri_eq2, ri_le3, ri_ge3, ri_lt3, ri_gt3, ri_eq3, ri_le4, ri_ge4, ri_lt4, ri_gt4, ri_eq4, ri_le5, ri_ge5, ri_lt5, ri_gt5, ri_eq5, ri_le10, ri_ge10, ri_lt10, ri_gt10, ri_eq10, ri_le12, ri_ge12, ri_lt12, ri_gt12, ri_eq12, ri_le16, ri_ge16, ri_lt16, ri_gt16, ri_eq16, ri_le20, ri_ge20, ri_lt20, ri_gt20, ri_eq20, ri_le32, ri_ge32, ri_lt32, ri_gt32, ri_eq32, ri_le80, ri_ge80, ri_lt80, ri_gt80, ri_eq80]
      grind
    · intro k i hi hf p
      simp only [wX_isYardFree_28]
      simp (disch := omega) only [nI_clamp, ri_n_ap, ri_b_ap, ri_x_ap, ri_y_ap, ri_in, ri_B0, ri_B1, ri_nm2, ri_nm1, ri_cx_z, ri_cx_n, ri_cy_n, ri_cy_g, ri_cx_e, ri_cy_e, nI_1, nI_add, ri_mul5, ri_mul5', ri_mul2, ri_mul2', ri_add5, ri_div2, ri_two, ri_01, ri_10, nI_eq, nI_leI, nI_ltI, forall_eq, not_false_eq_true, true_and, and_true, not_true_eq_false, false_implies, implies_true, true_implies, ri_le0, ri_ge0, ri_lt0, ri_gt0, ri_eq0, ri_le1, ri_ge1, ri_lt1, ri_gt1, ri_eq1, ri_le2, ri_ge2, ri_lt2, ri_gt2, ri_eq2, ri_le3, ri_ge3, ri_lt3, ri_gt3, ri_eq3, ri_le4, ri_ge4, ri_lt4, ri_gt4, ri_eq4, ri_le5, ri_ge5, ri_lt5, ri_gt5, ri_eq5, ri_le10, ri_ge10, ri_lt10, ri_gt10, ri_eq10, ri_le12, ri_ge12, ri_lt12, ri_gt12, ri_eq12, ri_le16, ri_ge16, ri_lt16, ri_gt16, ri_eq16, ri_le20, ri_ge20, ri_lt20, ri_gt20, ri_eq20, ri_le32, ri_ge32, ri_lt32, ri_gt32, ri_eq32, ri_le80, ri_ge80, ri_lt80, ri_gt80, ri_eq80]
      grind
    · intro k i hi hf p
      simp only [wX_isYardFree_28]
      simp (disch := omega) only [nI_clamp, ri_n_ap, ri_b_ap, ri_x_ap, ri_y_ap, ri_in, ri_B0, ri_B1, ri_nm2, ri_nm1, ri_cx_z, ri_cx_n, ri_cy_n, ri_cy_g, ri_cx_e, ri_cy_e, nI_1, nI_add, ri_mul5, ri_mul5', ri_mul2, ri_mul2', ri_add5, ri_div2, ri_two, ri_01, ri_10, nI_eq, nI_leI, nI_ltI, forall_eq, not_false_eq_true, true_and, and_true, not_true_eq_false, false_implies, implies_true, true_implies, ri_le0, ri_ge0, ri_lt0, ri_gt0, ri_eq0, ri_le1, ri_ge1, ri_lt1, ri_gt1, ri_eq1, ri_le2, ri_ge2, ri_lt2, ri_gt2, ri_eq2, ri_le3, ri_ge3, ri_lt3, ri_gt3, ri_eq3, ri_le4, ri_ge4, ri_lt4, ri_gt4, ri_eq4, ri_le5, ri_ge5, ri_lt5, ri_gt5, ri_eq5, ri_le10, ri_ge10, ri_lt10, ri_gt10, ri_eq10, ri_le12, ri_ge12, ri_lt12, ri_gt12, ri_eq12, ri_le16, ri_ge16, ri_lt16, ri_gt16, ri_eq16, ri_le20, ri_ge20, ri_lt20, ri_gt20, ri_eq20, ri_le32, ri_ge32, ri_lt32, ri_gt32, ri_eq32, ri_le80, ri_ge80, ri_lt80, ri_gt80, ri_eq80]
      grind
  refine ri_sc (fun k i => wX_isYardFree_2 post (nI J) (nI R) (ri_n fo) (ri_n ft) (ri_n ct) (ri_n ej) (ri_n ps) (ri_b sg) (ri_n rs) (ri_n rl) (ri_n sj) (ri_n se) cb (ri_b st) (ri_n wt) (ri_b hd) (ri_x lk) (ri_x hg) (ri_x un) (ri_n dn) k (nI i)) (∃ n, wX_isYardFree_28 post (nI J) (nI R) (ri_n fo) (ri_n ft) (ri_n ct) (ri_n ej) (ri_n ps) (ri_b sg) (ri_n rs) (ri_n rl) (ri_n sj) (ri_n se) cb (ri_b st) (ri_n wt) (ri_b hd) (ri_x lk) (ri_x hg) (ri_x un) (ri_n dn) n 0) (post 0) (fun t => decide (hg t ≠ 0)) 3 ?_ ?_ ?_ h2 (fun e => by rw [ri_busy, e] at h; exact h)
  · intro k p
    simp only [wX_isYardFree_2]
    simp (disch := omega) only [nI_clamp, ri_n_ap, ri_b_ap, ri_x_ap, ri_y_ap, ri_in, ri_B0, ri_B1, ri_nm2, ri_nm1, ri_cx_z, ri_cx_n, ri_cy_n, ri_cy_g, ri_cx_e, ri_cy_e, nI_1, nI_add, ri_mul5, ri_mul5', ri_mul2, ri_mul2', ri_add5, ri_div2, ri_two, ri_01, ri_10, nI_eq, nI_leI, nI_ltI, forall_eq, not_false_eq_true, true_and, and_true, not_true_eq_false, false_implies, implies_true, true_implies, ri_le0, ri_ge0, ri_lt0, ri_gt0, ri_eq0, ri_le1, ri_ge1, ri_lt1, ri_gt1, ri_eq1, ri_le2, ri_ge2, ri_lt2, ri_gt2, ri_eq2, ri_le3, ri_ge3, ri_lt3, ri_gt3, ri_eq3, ri_le4, ri_ge4, ri_lt4, ri_gt4, ri_eq4, ri_le5, ri_ge5, ri_lt5, ri_gt5, ri_eq5, ri_le10, ri_ge10, ri_lt10, ri_gt10, ri_eq10, ri_le12, ri_ge12, ri_lt12, ri_gt12, ri_eq12, ri_le16, ri_ge16, ri_lt16, ri_gt16, ri_eq16, ri_le20, ri_ge20, ri_lt20, ri_gt20, ri_eq20, ri_le32, ri_ge32, ri_lt32, ri_gt32, ri_eq32, ri_le80, ri_ge80, ri_lt80, ri_gt80, ri_eq80]
    grind
  · intro k i hi hf p
    have := HG i
    simp only [wX_isYardFree_2]
    simp (disch := omega) only [nI_clamp, ri_n_ap, ri_b_ap, ri_x_ap, ri_y_ap, ri_in, ri_B0, ri_B1, ri_nm2, ri_nm1, ri_cx_z, ri_cx_n, ri_cy_n, ri_cy_g, ri_cx_e, ri_cy_e, nI_1, nI_add, ri_mul5, ri_mul5', ri_mul2, ri_mul2', ri_add5, ri_div2, ri_two, ri_01, ri_10, nI_eq, nI_leI, nI_ltI, forall_eq, not_false_eq_true, true_and, and_true, not_true_eq_false, false_implies, implies_true, true_implies, ri_le0, ri_ge0, ri_lt0, ri_gt0, ri_eq0, ri_le1, ri_ge1, ri_lt1, ri_gt1, ri_eq1, ri_le2, ri_ge2, ri_lt2, ri_gt2, ri_eq2, ri_le3, ri_ge3, ri_lt3, ri_gt3, ri_eq3, ri_le4, ri_ge4, ri_lt4, ri_gt4, ri_eq4, ri_le5, ri_ge5, ri_lt5, ri_gt5, ri_eq5, ri_le10, ri_ge10, ri_lt10, ri_gt10, ri_eq10, ri_le12, ri_ge12, ri_lt12, ri_gt12, ri_eq12, ri_le16, ri_ge16, ri_lt16, ri_gt16, ri_eq16, ri_le20, ri_ge20, ri_lt20, ri_gt20, ri_eq20, ri_le32, ri_ge32, ri_lt32, ri_gt32, ri_eq32, ri_le80, ri_ge80, ri_lt80, ri_gt80, ri_eq80]
    grind
  · intro k i hi hf p
    have := HG i
    simp only [wX_isYardFree_2]
    simp (disch := omega) only [nI_clamp, ri_n_ap, ri_b_ap, ri_x_ap, ri_y_ap, ri_in, ri_B0, ri_B1, ri_nm2, ri_nm1, ri_cx_z, ri_cx_n, ri_cy_n, ri_cy_g, ri_cx_e, ri_cy_e, nI_1, nI_add, ri_mul5, ri_mul5', ri_mul2, ri_mul2', ri_add5, ri_div2, ri_two, ri_01, ri_10, nI_eq, nI_leI, nI_ltI, forall_eq, not_false_eq_true, true_and, and_true, not_true_eq_false, false_implies, implies_true, true_implies, ri_le0, ri_ge0, ri_lt0, ri_gt0, ri_eq0, ri_le1, ri_ge1, ri_lt1, ri_gt1, ri_eq1, ri_le2, ri_ge2, ri_lt2, ri_gt2, ri_eq2, ri_le3, ri_ge3, ri_lt3, ri_gt3, ri_eq3, ri_le4, ri_ge4, ri_lt4, ri_gt4, ri_eq4, ri_le5, ri_ge5, ri_lt5, ri_gt5, ri_eq5, ri_le10, ri_ge10, ri_lt10, ri_gt10, ri_eq10, ri_le12, ri_ge12, ri_lt12, ri_gt12, ri_eq12, ri_le16, ri_ge16, ri_lt16, ri_gt16, ri_eq16, ri_le20, ri_ge20, ri_lt20, ri_gt20, ri_eq20, ri_le32, ri_ge32, ri_lt32, ri_gt32, ri_eq32, ri_le80, ri_ge80, ri_lt80, ri_gt80, ri_eq80]
    grind
end
end
section
section
variable {J R : Nat} {fo ft ct ej ps : Nat → Nat} {sg : Nat → Bool} {rs rl sj se : Nat → Nat} {cb : Nat → Int32} {st : Nat → Bool} {wt : Nat → Nat} {hd : Nat → Bool} {lk hg un dn : Nat → Nat} {rv mt nx : Nat → Int32}
def ri_eocc (hg rl se : Nat → Nat) (r : Nat) : Bool := ri_ba (fun i => ri_occ hg (se (5 * r + i) / 2)) (rl r)
def ri_elck (lk rl se : Nat → Nat) (r : Nat) : Bool := ri_ba (fun i => decide (lk (se (5 * r + i) / 2) ≠ 0)) (rl r)
def ri_held (R : Nat) (fo ft rl sj : Nat → Nat) (hd : Nat → Bool) (a : Nat) : Bool := ri_ba (fun r => ri_ba (fun i => hd (5 * r + i) && ri_at fo ft a (sj (5 * r + i))) (rl r)) R
def ri_fa (R : Nat) (fo ft ct ej ps rl sj : Nat → Nat) (hd : Nat → Bool) (hg : Nat → Nat) (a j : Nat) : Bool := decide (ct a = 2) && (decide (ej (2 * a + ps a) ≠ j) && (ri_occ hg (a / 2) || ri_held R fo ft rl sj hd a))
def ri_nfp (R : Nat) (fo ft ct ej ps rl sj : Nat → Nat) (hd : Nat → Bool) (hg : Nat → Nat) (r : Nat) : Bool := ri_ba (fun i => ri_fa R fo ft ct ej ps rl sj hd hg (fo (sj (5 * r + i))) (sj (5 * r + i)) || ri_fa R fo ft ct ej ps rl sj hd hg (ft (sj (5 * r + i))) (sj (5 * r + i))) (rl r)
def ri_obs (eo el nf : Bool) (s : Bool) : Nat := if s = true then 1 else if eo = true then 2 else if el = true then 3 else if nf = true then 4 else 0
theorem rx_eocc {post : Int32 → Prop} {r : Nat} (hr : r < 16) (HG : ∀ t, hg t ≤ 20) (RL : ∀ r, rl r ≤ 5) (SE : ∀ i, se i < 20) (h : post (ri_B (ri_eocc hg rl se r))) : wpX_entersOccupied post (sX J R fo ft ct ej ps sg rs rl sj se cb st wt hd lk hg un dn) (nI r) := by
  have hl := RL r
  refine ri_scB (fun k i => wX_entersOccupied_2 post (nI r) (nI J) (nI R) (ri_n fo) (ri_n ft) (ri_n ct) (ri_n ej) (ri_n ps) (ri_b sg) (ri_n rs) (ri_n rl) (ri_n sj) (ri_n se) cb (ri_b st) (ri_n wt) (ri_b hd) (ri_x lk) (ri_x hg) (ri_x un) (ri_n dn) k (nI i)) post _ (rl r) h ?_ ?_ ?_
  · intro k p
    simp only [wX_entersOccupied_2]
    simp (disch := omega) only [nI_clamp, ri_n_ap, ri_b_ap, ri_x_ap, ri_y_ap, ri_in, ri_B0, ri_B1, ri_nm2, ri_nm1, ri_cx_z, ri_cx_n, ri_cy_n, ri_cy_g, ri_cx_e, ri_cy_e, nI_1, nI_add, ri_mul5, ri_mul5', ri_mul2, ri_mul2', ri_add5, ri_div2, ri_two, ri_01, ri_10, nI_eq, nI_leI, nI_ltI, forall_eq, not_false_eq_true, true_and, and_true, not_true_eq_false, false_implies, implies_true, true_implies, ri_le0, ri_ge0, ri_lt0, ri_gt0, ri_eq0, ri_le1, ri_ge1, ri_lt1, ri_gt1, ri_eq1, ri_le2, ri_ge2, ri_lt2, ri_gt2, ri_eq2, ri_le3, ri_ge3, ri_lt3, ri_gt3, ri_eq3, ri_le4, ri_ge4, ri_lt4, ri_gt4, ri_eq4, ri_le5, ri_ge5, ri_lt5, ri_gt5, ri_eq5, ri_le10, ri_ge10, ri_lt10, ri_gt10, ri_eq10, ri_le12, ri_ge12, ri_lt12, ri_gt12, ri_eq12, ri_le16, ri_ge16, ri_lt16, ri_gt16, ri_eq16, ri_le20, ri_ge20, ri_lt20, ri_gt20, ri_eq20, ri_le32, ri_ge32, ri_lt32, ri_gt32, ri_eq32, ri_le80, ri_ge80, ri_lt80, ri_gt80, ri_eq80]
    grind
  · intro k i hi hf p
    have := SE (5 * r + i)
    simp only [wX_entersOccupied_2]
    simp (disch := omega) only [nI_clamp, ri_n_ap, ri_b_ap, ri_x_ap, ri_y_ap, ri_in, ri_B0, ri_B1, ri_nm2, ri_nm1, ri_cx_z, ri_cx_n, ri_cy_n, ri_cy_g, ri_cx_e, ri_cy_e, nI_1, nI_add, ri_mul5, ri_mul5', ri_mul2, ri_mul2', ri_add5, ri_div2, ri_two, ri_01, ri_10, nI_eq, nI_leI, nI_ltI, forall_eq, not_false_eq_true, true_and, and_true, not_true_eq_false, false_implies, implies_true, true_implies, ri_le0, ri_ge0, ri_lt0, ri_gt0, ri_eq0, ri_le1, ri_ge1, ri_lt1, ri_gt1, ri_eq1, ri_le2, ri_ge2, ri_lt2, ri_gt2, ri_eq2, ri_le3, ri_ge3, ri_lt3, ri_gt3, ri_eq3, ri_le4, ri_ge4, ri_lt4, ri_gt4, ri_eq4, ri_le5, ri_ge5, ri_lt5, ri_gt5, ri_eq5, ri_le10, ri_ge10, ri_lt10, ri_gt10, ri_eq10, ri_le12, ri_ge12, ri_lt12, ri_gt12, ri_eq12, ri_le16, ri_ge16, ri_lt16, ri_gt16, ri_eq16, ri_le20, ri_ge20, ri_lt20, ri_gt20, ri_eq20, ri_le32, ri_ge32, ri_lt32, ri_gt32, ri_eq32, ri_le80, ri_ge80, ri_lt80, ri_gt80, ri_eq80]
    refine ⟨by omega, fun z => absurd z (by omega), fun _ => ⟨by omega, ?_⟩⟩
    refine rx_occ (by omega) HG ?_
    simp (disch := omega) only [nI_clamp, ri_n_ap, ri_b_ap, ri_x_ap, ri_y_ap, ri_in, ri_B0, ri_B1, ri_nm2, ri_nm1, ri_cx_z, ri_cx_n, ri_cy_n, ri_cy_g, ri_cx_e, ri_cy_e, nI_1, nI_add, ri_mul5, ri_mul5', ri_mul2, ri_mul2', ri_add5, ri_div2, ri_two, ri_01, ri_10, nI_eq, nI_leI, nI_ltI, forall_eq, not_false_eq_true, true_and, and_true, not_true_eq_false, false_implies, implies_true, true_implies, ri_le0, ri_ge0, ri_lt0, ri_gt0, ri_eq0, ri_le1, ri_ge1, ri_lt1, ri_gt1, ri_eq1, ri_le2, ri_ge2, ri_lt2, ri_gt2, ri_eq2, ri_le3, ri_ge3, ri_lt3, ri_gt3, ri_eq3, ri_le4, ri_ge4, ri_lt4, ri_gt4, ri_eq4, ri_le5, ri_ge5, ri_lt5, ri_gt5, ri_eq5, ri_le10, ri_ge10, ri_lt10, ri_gt10, ri_eq10, ri_le12, ri_ge12, ri_lt12, ri_gt12, ri_eq12, ri_le16, ri_ge16, ri_lt16, ri_gt16, ri_eq16, ri_le20, ri_ge20, ri_lt20, ri_gt20, ri_eq20, ri_le32, ri_ge32, ri_lt32, ri_gt32, ri_eq32, ri_le80, ri_ge80, ri_lt80, ri_gt80, ri_eq80]
    grind
  · intro k i hi hf p
    have := SE (5 * r + i)
    simp only [wX_entersOccupied_2]
    simp (disch := omega) only [nI_clamp, ri_n_ap, ri_b_ap, ri_x_ap, ri_y_ap, ri_in, ri_B0, ri_B1, ri_nm2, ri_nm1, ri_cx_z, ri_cx_n, ri_cy_n, ri_cy_g, ri_cx_e, ri_cy_e, nI_1, nI_add, ri_mul5, ri_mul5', ri_mul2, ri_mul2', ri_add5, ri_div2, ri_two, ri_01, ri_10, nI_eq, nI_leI, nI_ltI, forall_eq, not_false_eq_true, true_and, and_true, not_true_eq_false, false_implies, implies_true, true_implies, ri_le0, ri_ge0, ri_lt0, ri_gt0, ri_eq0, ri_le1, ri_ge1, ri_lt1, ri_gt1, ri_eq1, ri_le2, ri_ge2, ri_lt2, ri_gt2, ri_eq2, ri_le3, ri_ge3, ri_lt3, ri_gt3, ri_eq3, ri_le4, ri_ge4, ri_lt4, ri_gt4, ri_eq4, ri_le5, ri_ge5, ri_lt5, ri_gt5, ri_eq5, ri_le10, ri_ge10, ri_lt10, ri_gt10, ri_eq10, ri_le12, ri_ge12, ri_lt12, ri_gt12, ri_eq12, ri_le16, ri_ge16, ri_lt16, ri_gt16, ri_eq16, ri_le20, ri_ge20, ri_lt20, ri_gt20, ri_eq20, ri_le32, ri_ge32, ri_lt32, ri_gt32, ri_eq32, ri_le80, ri_ge80, ri_lt80, ri_gt80, ri_eq80]
    refine ⟨by omega, fun z => absurd z (by omega), fun _ => ⟨by omega, ?_⟩⟩
    refine rx_occ (by omega) HG ?_
    simp (disch := omega) only [nI_clamp, ri_n_ap, ri_b_ap, ri_x_ap, ri_y_ap, ri_in, ri_B0, ri_B1, ri_nm2, ri_nm1, ri_cx_z, ri_cx_n, ri_cy_n, ri_cy_g, ri_cx_e, ri_cy_e, nI_1, nI_add, ri_mul5, ri_mul5', ri_mul2, ri_mul2', ri_add5, ri_div2, ri_two, ri_01, ri_10, nI_eq, nI_leI, nI_ltI, forall_eq, not_false_eq_true, true_and, and_true, not_true_eq_false, false_implies, implies_true, true_implies, ri_le0, ri_ge0, ri_lt0, ri_gt0, ri_eq0, ri_le1, ri_ge1, ri_lt1, ri_gt1, ri_eq1, ri_le2, ri_ge2, ri_lt2, ri_gt2, ri_eq2, ri_le3, ri_ge3, ri_lt3, ri_gt3, ri_eq3, ri_le4, ri_ge4, ri_lt4, ri_gt4, ri_eq4, ri_le5, ri_ge5, ri_lt5, ri_gt5, ri_eq5, ri_le10, ri_ge10, ri_lt10, ri_gt10, ri_eq10, ri_le12, ri_ge12, ri_lt12, ri_gt12, ri_eq12, ri_le16, ri_ge16, ri_lt16, ri_gt16, ri_eq16, ri_le20, ri_ge20, ri_lt20, ri_gt20, ri_eq20, ri_le32, ri_ge32, ri_lt32, ri_gt32, ri_eq32, ri_le80, ri_ge80, ri_lt80, ri_gt80, ri_eq80]
    grind
theorem rx_elck {post : Int32 → Prop} {r : Nat} (hr : r < 16) (LK : ∀ s, lk s ≤ 16) (RL : ∀ r, rl r ≤ 5) (SE : ∀ i, se i < 20) (h : post (ri_B (ri_elck lk rl se r))) : wpX_entersLocked post (sX J R fo ft ct ej ps sg rs rl sj se cb st wt hd lk hg un dn) (nI r) := by
  have hl := RL r
  refine ri_scB (fun k i => wX_entersLocked_2 post (nI r) (nI J) (nI R) (ri_n fo) (ri_n ft) (ri_n ct) (ri_n ej) (ri_n ps) (ri_b sg) (ri_n rs) (ri_n rl) (ri_n sj) (ri_n se) cb (ri_b st) (ri_n wt) (ri_b hd) (ri_x lk) (ri_x hg) (ri_x un) (ri_n dn) k (nI i)) post _ (rl r) h ?_ ?_ ?_
  · intro k p
    simp only [wX_entersLocked_2]
    simp (disch := omega) only [nI_clamp, ri_n_ap, ri_b_ap, ri_x_ap, ri_y_ap, ri_in, ri_B0, ri_B1, ri_nm2, ri_nm1, ri_cx_z, ri_cx_n, ri_cy_n, ri_cy_g, ri_cx_e, ri_cy_e, nI_1, nI_add, ri_mul5, ri_mul5', ri_mul2, ri_mul2', ri_add5, ri_div2, ri_two, ri_01, ri_10, nI_eq, nI_leI, nI_ltI, forall_eq, not_false_eq_true, true_and, and_true, not_true_eq_false, false_implies, implies_true, true_implies, ri_le0, ri_ge0, ri_lt0, ri_gt0, ri_eq0, ri_le1, ri_ge1, ri_lt1, ri_gt1, ri_eq1, ri_le2, ri_ge2, ri_lt2, ri_gt2, ri_eq2, ri_le3, ri_ge3, ri_lt3, ri_gt3, ri_eq3, ri_le4, ri_ge4, ri_lt4, ri_gt4, ri_eq4, ri_le5, ri_ge5, ri_lt5, ri_gt5, ri_eq5, ri_le10, ri_ge10, ri_lt10, ri_gt10, ri_eq10, ri_le12, ri_ge12, ri_lt12, ri_gt12, ri_eq12, ri_le16, ri_ge16, ri_lt16, ri_gt16, ri_eq16, ri_le20, ri_ge20, ri_lt20, ri_gt20, ri_eq20, ri_le32, ri_ge32, ri_lt32, ri_gt32, ri_eq32, ri_le80, ri_ge80, ri_lt80, ri_gt80, ri_eq80]
    grind
  · intro k i hi hf p
    have := SE (5 * r + i)
    have := LK (se (5 * r + i) / 2)
    simp only [wX_entersLocked_2]
    simp (disch := omega) only [nI_clamp, ri_n_ap, ri_b_ap, ri_x_ap, ri_y_ap, ri_in, ri_B0, ri_B1, ri_nm2, ri_nm1, ri_cx_z, ri_cx_n, ri_cy_n, ri_cy_g, ri_cx_e, ri_cy_e, nI_1, nI_add, ri_mul5, ri_mul5', ri_mul2, ri_mul2', ri_add5, ri_div2, ri_two, ri_01, ri_10, nI_eq, nI_leI, nI_ltI, forall_eq, not_false_eq_true, true_and, and_true, not_true_eq_false, false_implies, implies_true, true_implies, ri_le0, ri_ge0, ri_lt0, ri_gt0, ri_eq0, ri_le1, ri_ge1, ri_lt1, ri_gt1, ri_eq1, ri_le2, ri_ge2, ri_lt2, ri_gt2, ri_eq2, ri_le3, ri_ge3, ri_lt3, ri_gt3, ri_eq3, ri_le4, ri_ge4, ri_lt4, ri_gt4, ri_eq4, ri_le5, ri_ge5, ri_lt5, ri_gt5, ri_eq5, ri_le10, ri_ge10, ri_lt10, ri_gt10, ri_eq10, ri_le12, ri_ge12, ri_lt12, ri_gt12, ri_eq12, ri_le16, ri_ge16, ri_lt16, ri_gt16, ri_eq16, ri_le20, ri_ge20, ri_lt20, ri_gt20, ri_eq20, ri_le32, ri_ge32, ri_lt32, ri_gt32, ri_eq32, ri_le80, ri_ge80, ri_lt80, ri_gt80, ri_eq80]
    grind
  · intro k i hi hf p
    have := SE (5 * r + i)
    have := LK (se (5 * r + i) / 2)
    simp only [wX_entersLocked_2]
    simp (disch := omega) only [nI_clamp, ri_n_ap, ri_b_ap, ri_x_ap, ri_y_ap, ri_in, ri_B0, ri_B1, ri_nm2, ri_nm1, ri_cx_z, ri_cx_n, ri_cy_n, ri_cy_g, ri_cx_e, ri_cy_e, nI_1, nI_add, ri_mul5, ri_mul5', ri_mul2, ri_mul2', ri_add5, ri_div2, ri_two, ri_01, ri_10, nI_eq, nI_leI, nI_ltI, forall_eq, not_false_eq_true, true_and, and_true, not_true_eq_false, false_implies, implies_true, true_implies, ri_le0, ri_ge0, ri_lt0, ri_gt0, ri_eq0, ri_le1, ri_ge1, ri_lt1, ri_gt1, ri_eq1, ri_le2, ri_ge2, ri_lt2, ri_gt2, ri_eq2, ri_le3, ri_ge3, ri_lt3, ri_gt3, ri_eq3, ri_le4, ri_ge4, ri_lt4, ri_gt4, ri_eq4, ri_le5, ri_ge5, ri_lt5, ri_gt5, ri_eq5, ri_le10, ri_ge10, ri_lt10, ri_gt10, ri_eq10, ri_le12, ri_ge12, ri_lt12, ri_gt12, ri_eq12, ri_le16, ri_ge16, ri_lt16, ri_gt16, ri_eq16, ri_le20, ri_ge20, ri_lt20, ri_gt20, ri_eq20, ri_le32, ri_ge32, ri_lt32, ri_gt32, ri_eq32, ri_le80, ri_ge80, ri_lt80, ri_gt80, ri_eq80]
    grind
theorem rx_point {post : Int32 → Prop} {a : Nat} (ha : a < 20) (CT : ∀ a, ct a ≤ 2) (h : post (ri_B (decide (ct a = 2)))) : wpX_isPoint post (sX J R fo ft ct ej ps sg rs rl sj se cb st wt hd lk hg un dn) (nI a) := by
  have := CT a
  simp only [wpX_isPoint]
  simp (disch := omega) only [nI_clamp, ri_n_ap, ri_b_ap, ri_x_ap, ri_y_ap, ri_in, ri_B0, ri_B1, ri_nm2, ri_nm1, ri_cx_z, ri_cx_n, ri_cy_n, ri_cy_g, ri_cx_e, ri_cy_e, nI_1, nI_add, ri_mul5, ri_mul5', ri_mul2, ri_mul2', ri_add5, ri_div2, ri_two, ri_01, ri_10, nI_eq, nI_leI, nI_ltI, forall_eq, not_false_eq_true, true_and, and_true, not_true_eq_false, false_implies, implies_true, true_implies, ri_le0, ri_ge0, ri_lt0, ri_gt0, ri_eq0, ri_le1, ri_ge1, ri_lt1, ri_gt1, ri_eq1, ri_le2, ri_ge2, ri_lt2, ri_gt2, ri_eq2, ri_le3, ri_ge3, ri_lt3, ri_gt3, ri_eq3, ri_le4, ri_ge4, ri_lt4, ri_gt4, ri_eq4, ri_le5, ri_ge5, ri_lt5, ri_gt5, ri_eq5, ri_le10, ri_ge10, ri_lt10, ri_gt10, ri_eq10, ri_le12, ri_ge12, ri_lt12, ri_gt12, ri_eq12, ri_le16, ri_ge16, ri_lt16, ri_gt16, ri_eq16, ri_le20, ri_ge20, ri_lt20, ri_gt20, ri_eq20, ri_le32, ri_ge32, ri_lt32, ri_gt32, ri_eq32, ri_le80, ri_ge80, ri_lt80, ri_gt80, ri_eq80]
  by_cases z : ct a = 2
  · rw [decide_eq_true z] at h; exact ⟨by omega, br_t z h⟩
  · rw [decide_eq_false z] at h; exact ⟨by omega, br_f z h⟩
theorem rx_heldI {post J2 : Int32 → Prop} {a r : Nat} (ha : a < 20) (hr : r < 16) (RL : ∀ r, rl r ≤ 5) (SJ : ∀ i, sj i < 12) (FO : ∀ j, fo j < 20) (FT : ∀ j, ft j < 20) (h0 : ri_ba (fun i => hd (5 * r + i) && ri_at fo ft a (sj (5 * r + i))) (rl r) = false → J2 (nI (r + 1))) (h1 : ri_ba (fun i => hd (5 * r + i) && ri_at fo ft a (sj (5 * r + i))) (rl r) = true → post 1) : ∃ n, wX_isHeld_12 post J2 (nI a) (nI r) (nI J) (nI R) (ri_n fo) (ri_n ft) (ri_n ct) (ri_n ej) (ri_n ps) (ri_b sg) (ri_n rs) (ri_n rl) (ri_n sj) (ri_n se) cb (ri_b st) (ri_n wt) (ri_b hd) (ri_x lk) (ri_x hg) (ri_x un) (ri_n dn) n 0 := by
  have hl := RL r
  refine ri_sc (fun k i => wX_isHeld_12 post J2 (nI a) (nI r) (nI J) (nI R) (ri_n fo) (ri_n ft) (ri_n ct) (ri_n ej) (ri_n ps) (ri_b sg) (ri_n rs) (ri_n rl) (ri_n sj) (ri_n se) cb (ri_b st) (ri_n wt) (ri_b hd) (ri_x lk) (ri_x hg) (ri_x un) (ri_n dn) k (nI i)) (J2 (nI (r + 1))) (post 1) _ (rl r) ?_ ?_ ?_ h0 h1
  · intro k p
    simp only [wX_isHeld_12]
    simp (disch := omega) only [nI_clamp, ri_n_ap, ri_b_ap, ri_x_ap, ri_y_ap, ri_in, ri_B0, ri_B1, ri_nm2, ri_nm1, ri_cx_z, ri_cx_n, ri_cy_n, ri_cy_g, ri_cx_e, ri_cy_e, nI_1, nI_add, ri_mul5, ri_mul5', ri_mul2, ri_mul2', ri_add5, ri_div2, ri_two, ri_01, ri_10, nI_eq, nI_leI, nI_ltI, forall_eq, not_false_eq_true, true_and, and_true, not_true_eq_false, false_implies, implies_true, true_implies, ri_le0, ri_ge0, ri_lt0, ri_gt0, ri_eq0, ri_le1, ri_ge1, ri_lt1, ri_gt1, ri_eq1, ri_le2, ri_ge2, ri_lt2, ri_gt2, ri_eq2, ri_le3, ri_ge3, ri_lt3, ri_gt3, ri_eq3, ri_le4, ri_ge4, ri_lt4, ri_gt4, ri_eq4, ri_le5, ri_ge5, ri_lt5, ri_gt5, ri_eq5, ri_le10, ri_ge10, ri_lt10, ri_gt10, ri_eq10, ri_le12, ri_ge12, ri_lt12, ri_gt12, ri_eq12, ri_le16, ri_ge16, ri_lt16, ri_gt16, ri_eq16, ri_le20, ri_ge20, ri_lt20, ri_gt20, ri_eq20, ri_le32, ri_ge32, ri_lt32, ri_gt32, ri_eq32, ri_le80, ri_ge80, ri_lt80, ri_gt80, ri_eq80]
    grind
  · intro k i hi hf p
    have := SJ (5 * r + i)
    have := FO (sj (5 * r + i))
    have := FT (sj (5 * r + i))
    simp only [ri_at, Bool.and_eq_true, Bool.or_eq_true, decide_eq_true_eq] at hf
    simp only [wX_isHeld_12]
    simp (disch := omega) only [nI_clamp, ri_n_ap, ri_b_ap, ri_x_ap, ri_y_ap, ri_in, ri_B0, ri_B1, ri_nm2, ri_nm1, ri_cx_z, ri_cx_n, ri_cy_n, ri_cy_g, ri_cx_e, ri_cy_e, nI_1, nI_add, ri_mul5, ri_mul5', ri_mul2, ri_mul2', ri_add5, ri_div2, ri_two, ri_01, ri_10, nI_eq, nI_leI, nI_ltI, forall_eq, not_false_eq_true, true_and, and_true, not_true_eq_false, false_implies, implies_true, true_implies, ri_le0, ri_ge0, ri_lt0, ri_gt0, ri_eq0, ri_le1, ri_ge1, ri_lt1, ri_gt1, ri_eq1, ri_le2, ri_ge2, ri_lt2, ri_gt2, ri_eq2, ri_le3, ri_ge3, ri_lt3, ri_gt3, ri_eq3, ri_le4, ri_ge4, ri_lt4, ri_gt4, ri_eq4, ri_le5, ri_ge5, ri_lt5, ri_gt5, ri_eq5, ri_le10, ri_ge10, ri_lt10, ri_gt10, ri_eq10, ri_le12, ri_ge12, ri_lt12, ri_gt12, ri_eq12, ri_le16, ri_ge16, ri_lt16, ri_gt16, ri_eq16, ri_le20, ri_ge20, ri_lt20, ri_gt20, ri_eq20, ri_le32, ri_ge32, ri_lt32, ri_gt32, ri_eq32, ri_le80, ri_ge80, ri_lt80, ri_gt80, ri_eq80]
    grind
  · intro k i hi hf p
    have := SJ (5 * r + i)
    have := FO (sj (5 * r + i))
    have := FT (sj (5 * r + i))
    simp only [ri_at, Bool.and_eq_false_iff, Bool.or_eq_false_iff, decide_eq_false_iff_not] at hf
    simp only [wX_isHeld_12]
    simp (disch := omega) only [nI_clamp, ri_n_ap, ri_b_ap, ri_x_ap, ri_y_ap, ri_in, ri_B0, ri_B1, ri_nm2, ri_nm1, ri_cx_z, ri_cx_n, ri_cy_n, ri_cy_g, ri_cx_e, ri_cy_e, nI_1, nI_add, ri_mul5, ri_mul5', ri_mul2, ri_mul2', ri_add5, ri_div2, ri_two, ri_01, ri_10, nI_eq, nI_leI, nI_ltI, forall_eq, not_false_eq_true, true_and, and_true, not_true_eq_false, false_implies, implies_true, true_implies, ri_le0, ri_ge0, ri_lt0, ri_gt0, ri_eq0, ri_le1, ri_ge1, ri_lt1, ri_gt1, ri_eq1, ri_le2, ri_ge2, ri_lt2, ri_gt2, ri_eq2, ri_le3, ri_ge3, ri_lt3, ri_gt3, ri_eq3, ri_le4, ri_ge4, ri_lt4, ri_gt4, ri_eq4, ri_le5, ri_ge5, ri_lt5, ri_gt5, ri_eq5, ri_le10, ri_ge10, ri_lt10, ri_gt10, ri_eq10, ri_le12, ri_ge12, ri_lt12, ri_gt12, ri_eq12, ri_le16, ri_ge16, ri_lt16, ri_gt16, ri_eq16, ri_le20, ri_ge20, ri_lt20, ri_gt20, ri_eq20, ri_le32, ri_ge32, ri_lt32, ri_gt32, ri_eq32, ri_le80, ri_ge80, ri_lt80, ri_gt80, ri_eq80]
    grind
theorem rx_held {post : Int32 → Prop} {a : Nat} (ha : a < 20) (hR : R ≤ 16) (RL : ∀ r, rl r ≤ 5) (SJ : ∀ i, sj i < 12) (FO : ∀ j, fo j < 20) (FT : ∀ j, ft j < 20) (h : post (ri_B (ri_held R fo ft rl sj hd a))) : wpX_isHeld post (sX J R fo ft ct ej ps sg rs rl sj se cb st wt hd lk hg un dn) (nI a) := by
  refine ri_scB (fun k i => wX_isHeld_2 post (nI a) (nI J) (nI R) (ri_n fo) (ri_n ft) (ri_n ct) (ri_n ej) (ri_n ps) (ri_b sg) (ri_n rs) (ri_n rl) (ri_n sj) (ri_n se) cb (ri_b st) (ri_n wt) (ri_b hd) (ri_x lk) (ri_x hg) (ri_x un) (ri_n dn) k (nI i)) post _ R h ?_ ?_ ?_
  · intro k p
    simp only [wX_isHeld_2]
    simp (disch := omega) only [nI_clamp, ri_n_ap, ri_b_ap, ri_x_ap, ri_y_ap, ri_in, ri_B0, ri_B1, ri_nm2, ri_nm1, ri_cx_z, ri_cx_n, ri_cy_n, ri_cy_g, ri_cx_e, ri_cy_e, nI_1, nI_add, ri_mul5, ri_mul5', ri_mul2, ri_mul2', ri_add5, ri_div2, ri_two, ri_01, ri_10, nI_eq, nI_leI, nI_ltI, forall_eq, not_false_eq_true, true_and, and_true, not_true_eq_false, false_implies, implies_true, true_implies, ri_le0, ri_ge0, ri_lt0, ri_gt0, ri_eq0, ri_le1, ri_ge1, ri_lt1, ri_gt1, ri_eq1, ri_le2, ri_ge2, ri_lt2, ri_gt2, ri_eq2, ri_le3, ri_ge3, ri_lt3, ri_gt3, ri_eq3, ri_le4, ri_ge4, ri_lt4, ri_gt4, ri_eq4, ri_le5, ri_ge5, ri_lt5, ri_gt5, ri_eq5, ri_le10, ri_ge10, ri_lt10, ri_gt10, ri_eq10, ri_le12, ri_ge12, ri_lt12, ri_gt12, ri_eq12, ri_le16, ri_ge16, ri_lt16, ri_gt16, ri_eq16, ri_le20, ri_ge20, ri_lt20, ri_gt20, ri_eq20, ri_le32, ri_ge32, ri_lt32, ri_gt32, ri_eq32, ri_le80, ri_ge80, ri_lt80, ri_gt80, ri_eq80]
    grind
  · intro k i hi hf p
    simp only [wX_isHeld_2]
    simp (disch := omega) only [nI_clamp, ri_n_ap, ri_b_ap, ri_x_ap, ri_y_ap, ri_in, ri_B0, ri_B1, ri_nm2, ri_nm1, ri_cx_z, ri_cx_n, ri_cy_n, ri_cy_g, ri_cx_e, ri_cy_e, nI_1, nI_add, ri_mul5, ri_mul5', ri_mul2, ri_mul2', ri_add5, ri_div2, ri_two, ri_01, ri_10, nI_eq, nI_leI, nI_ltI, forall_eq, not_false_eq_true, true_and, and_true, not_true_eq_false, false_implies, implies_true, true_implies, ri_le0, ri_ge0, ri_lt0, ri_gt0, ri_eq0, ri_le1, ri_ge1, ri_lt1, ri_gt1, ri_eq1, ri_le2, ri_ge2, ri_lt2, ri_gt2, ri_eq2, ri_le3, ri_ge3, ri_lt3, ri_gt3, ri_eq3, ri_le4, ri_ge4, ri_lt4, ri_gt4, ri_eq4, ri_le5, ri_ge5, ri_lt5, ri_gt5, ri_eq5, ri_le10, ri_ge10, ri_lt10, ri_gt10, ri_eq10, ri_le12, ri_ge12, ri_lt12, ri_gt12, ri_eq12, ri_le16, ri_ge16, ri_lt16, ri_gt16, ri_eq16, ri_le20, ri_ge20, ri_lt20, ri_gt20, ri_eq20, ri_le32, ri_ge32, ri_lt32, ri_gt32, ri_eq32, ri_le80, ri_ge80, ri_lt80, ri_gt80, ri_eq80]
    exact ⟨fun z => absurd z (by omega), fun _ => rx_heldI ha (by omega) RL SJ FO FT (fun e => by rw [hf] at e; exact absurd e (by decide)) (fun _ => p)⟩
  · intro k i hi hf p
    simp only [wX_isHeld_2]
    simp (disch := omega) only [nI_clamp, ri_n_ap, ri_b_ap, ri_x_ap, ri_y_ap, ri_in, ri_B0, ri_B1, ri_nm2, ri_nm1, ri_cx_z, ri_cx_n, ri_cy_n, ri_cy_g, ri_cx_e, ri_cy_e, nI_1, nI_add, ri_mul5, ri_mul5', ri_mul2, ri_mul2', ri_add5, ri_div2, ri_two, ri_01, ri_10, nI_eq, nI_leI, nI_ltI, forall_eq, not_false_eq_true, true_and, and_true, not_true_eq_false, false_implies, implies_true, true_implies, ri_le0, ri_ge0, ri_lt0, ri_gt0, ri_eq0, ri_le1, ri_ge1, ri_lt1, ri_gt1, ri_eq1, ri_le2, ri_ge2, ri_lt2, ri_gt2, ri_eq2, ri_le3, ri_ge3, ri_lt3, ri_gt3, ri_eq3, ri_le4, ri_ge4, ri_lt4, ri_gt4, ri_eq4, ri_le5, ri_ge5, ri_lt5, ri_gt5, ri_eq5, ri_le10, ri_ge10, ri_lt10, ri_gt10, ri_eq10, ri_le12, ri_ge12, ri_lt12, ri_gt12, ri_eq12, ri_le16, ri_ge16, ri_lt16, ri_gt16, ri_eq16, ri_le20, ri_ge20, ri_lt20, ri_gt20, ri_eq20, ri_le32, ri_ge32, ri_lt32, ri_gt32, ri_eq32, ri_le80, ri_ge80, ri_lt80, ri_gt80, ri_eq80]
    exact ⟨fun z => absurd z (by omega), fun _ => rx_heldI ha (by omega) RL SJ FO FT (fun _ => p) (fun e => by rw [hf] at e; exact absurd e (by decide))⟩
theorem rx_fa {post : Int32 → Prop} {a j : Nat} (ha : a < 20) (hj : j < 12) (hR : R ≤ 16) (HG : ∀ t, hg t ≤ 20) (CT : ∀ a, ct a ≤ 2) (EJ : ∀ i, ej i < 12) (PS : ∀ a, ps a ≤ 1) (RL : ∀ r, rl r ≤ 5) (SJ : ∀ i, sj i < 12) (FO : ∀ j, fo j < 20) (FT : ∀ j, ft j < 20) (h : post (ri_B (ri_fa R fo ft ct ej ps rl sj hd hg a j))) : wpX_isFastAgainst post (sX J R fo ft ct ej ps sg rs rl sj se cb st wt hd lk hg un dn) (nI a) (nI j) := by
  simp only [wpX_isFastAgainst]
  refine rx_point ha CT ?_
  have := CT a
  have := PS a
  have := EJ (2 * a + ps a)
  unfold ri_fa at h
  simp (disch := omega) only [nI_clamp, ri_n_ap, ri_b_ap, ri_x_ap, ri_y_ap, ri_in, ri_B0, ri_B1, ri_nm2, ri_nm1, ri_cx_z, ri_cx_n, ri_cy_n, ri_cy_g, ri_cx_e, ri_cy_e, nI_1, nI_add, ri_mul5, ri_mul5', ri_mul2, ri_mul2', ri_add5, ri_div2, ri_two, ri_01, ri_10, nI_eq, nI_leI, nI_ltI, forall_eq, not_false_eq_true, true_and, and_true, not_true_eq_false, false_implies, implies_true, true_implies, ri_le0, ri_ge0, ri_lt0, ri_gt0, ri_eq0, ri_le1, ri_ge1, ri_lt1, ri_gt1, ri_eq1, ri_le2, ri_ge2, ri_lt2, ri_gt2, ri_eq2, ri_le3, ri_ge3, ri_lt3, ri_gt3, ri_eq3, ri_le4, ri_ge4, ri_lt4, ri_gt4, ri_eq4, ri_le5, ri_ge5, ri_lt5, ri_gt5, ri_eq5, ri_le10, ri_ge10, ri_lt10, ri_gt10, ri_eq10, ri_le12, ri_ge12, ri_lt12, ri_gt12, ri_eq12, ri_le16, ri_ge16, ri_lt16, ri_gt16, ri_eq16, ri_le20, ri_ge20, ri_lt20, ri_gt20, ri_eq20, ri_le32, ri_ge32, ri_lt32, ri_gt32, ri_eq32, ri_le80, ri_ge80, ri_lt80, ri_gt80, ri_eq80]
  by_cases z : ct a = 2
  · rw [decide_eq_true z] at h ⊢
    rw [Bool.true_and] at h
    refine br_f (by decide) ⟨by omega, by omega, ?_⟩
    by_cases y : ej (2 * a + ps a) = j
    · simp only [y, ne_eq, not_true_eq_false, decide_false, Bool.false_and] at h
      exact br_t y h
    · simp only [y, ne_eq, not_false_eq_true, decide_true, Bool.true_and] at h
      refine br_f y (rx_occ (by omega) HG ?_)
      simp (disch := omega) only [nI_clamp, ri_n_ap, ri_b_ap, ri_x_ap, ri_y_ap, ri_in, ri_B0, ri_B1, ri_nm2, ri_nm1, ri_cx_z, ri_cx_n, ri_cy_n, ri_cy_g, ri_cx_e, ri_cy_e, nI_1, nI_add, ri_mul5, ri_mul5', ri_mul2, ri_mul2', ri_add5, ri_div2, ri_two, ri_01, ri_10, nI_eq, nI_leI, nI_ltI, forall_eq, not_false_eq_true, true_and, and_true, not_true_eq_false, false_implies, implies_true, true_implies, ri_le0, ri_ge0, ri_lt0, ri_gt0, ri_eq0, ri_le1, ri_ge1, ri_lt1, ri_gt1, ri_eq1, ri_le2, ri_ge2, ri_lt2, ri_gt2, ri_eq2, ri_le3, ri_ge3, ri_lt3, ri_gt3, ri_eq3, ri_le4, ri_ge4, ri_lt4, ri_gt4, ri_eq4, ri_le5, ri_ge5, ri_lt5, ri_gt5, ri_eq5, ri_le10, ri_ge10, ri_lt10, ri_gt10, ri_eq10, ri_le12, ri_ge12, ri_lt12, ri_gt12, ri_eq12, ri_le16, ri_ge16, ri_lt16, ri_gt16, ri_eq16, ri_le20, ri_ge20, ri_lt20, ri_gt20, ri_eq20, ri_le32, ri_ge32, ri_lt32, ri_gt32, ri_eq32, ri_le80, ri_ge80, ri_lt80, ri_gt80, ri_eq80]
      cases e : ri_occ hg (a / 2) with
      | true => rw [e] at h; exact br_f (by decide) h
      | false =>
        rw [e, Bool.false_or] at h
        refine br_t rfl (rx_held ha hR RL SJ FO FT ?_)
        simp (disch := omega) only [nI_clamp, ri_n_ap, ri_b_ap, ri_x_ap, ri_y_ap, ri_in, ri_B0, ri_B1, ri_nm2, ri_nm1, ri_cx_z, ri_cx_n, ri_cy_n, ri_cy_g, ri_cx_e, ri_cy_e, nI_1, nI_add, ri_mul5, ri_mul5', ri_mul2, ri_mul2', ri_add5, ri_div2, ri_two, ri_01, ri_10, nI_eq, nI_leI, nI_ltI, forall_eq, not_false_eq_true, true_and, and_true, not_true_eq_false, false_implies, implies_true, true_implies, ri_le0, ri_ge0, ri_lt0, ri_gt0, ri_eq0, ri_le1, ri_ge1, ri_lt1, ri_gt1, ri_eq1, ri_le2, ri_ge2, ri_lt2, ri_gt2, ri_eq2, ri_le3, ri_ge3, ri_lt3, ri_gt3, ri_eq3, ri_le4, ri_ge4, ri_lt4, ri_gt4, ri_eq4, ri_le5, ri_ge5, ri_lt5, ri_gt5, ri_eq5, ri_le10, ri_ge10, ri_lt10, ri_gt10, ri_eq10, ri_le12, ri_ge12, ri_lt12, ri_gt12, ri_eq12, ri_le16, ri_ge16, ri_lt16, ri_gt16, ri_eq16, ri_le20, ri_ge20, ri_lt20, ri_gt20, ri_eq20, ri_le32, ri_ge32, ri_lt32, ri_gt32, ri_eq32, ri_le80, ri_ge80, ri_lt80, ri_gt80, ri_eq80]
        cases e2 : ri_held R fo ft rl sj hd a with
        | true => rw [e2] at h; exact br_f (by decide) h
        | false => rw [e2] at h; exact br_t rfl h
  · rw [decide_eq_false z] at h ⊢
    exact br_t rfl h
theorem rx_nfp {post : Int32 → Prop} {r : Nat} (hr : r < 16) (hR : R ≤ 16) (HG : ∀ t, hg t ≤ 20) (CT : ∀ a, ct a ≤ 2) (EJ : ∀ i, ej i < 12) (PS : ∀ a, ps a ≤ 1) (RL : ∀ r, rl r ≤ 5) (SJ : ∀ i, sj i < 12) (FO : ∀ j, fo j < 20) (FT : ∀ j, ft j < 20) (h : post (ri_B (ri_nfp R fo ft ct ej ps rl sj hd hg r))) : wpX_needsFastPointMoved post (sX J R fo ft ct ej ps sg rs rl sj se cb st wt hd lk hg un dn) (nI r) := by
  have hl := RL r
  refine ri_scB (fun k i => wX_needsFastPointMoved_2 post (nI r) (nI J) (nI R) (ri_n fo) (ri_n ft) (ri_n ct) (ri_n ej) (ri_n ps) (ri_b sg) (ri_n rs) (ri_n rl) (ri_n sj) (ri_n se) cb (ri_b st) (ri_n wt) (ri_b hd) (ri_x lk) (ri_x hg) (ri_x un) (ri_n dn) k (nI i)) post _ (rl r) h ?_ ?_ ?_
  · intro k p
    simp only [wX_needsFastPointMoved_2]
    simp (disch := omega) only [nI_clamp, ri_n_ap, ri_b_ap, ri_x_ap, ri_y_ap, ri_in, ri_B0, ri_B1, ri_nm2, ri_nm1, ri_cx_z, ri_cx_n, ri_cy_n, ri_cy_g, ri_cx_e, ri_cy_e, nI_1, nI_add, ri_mul5, ri_mul5', ri_mul2, ri_mul2', ri_add5, ri_div2, ri_two, ri_01, ri_10, nI_eq, nI_leI, nI_ltI, forall_eq, not_false_eq_true, true_and, and_true, not_true_eq_false, false_implies, implies_true, true_implies, ri_le0, ri_ge0, ri_lt0, ri_gt0, ri_eq0, ri_le1, ri_ge1, ri_lt1, ri_gt1, ri_eq1, ri_le2, ri_ge2, ri_lt2, ri_gt2, ri_eq2, ri_le3, ri_ge3, ri_lt3, ri_gt3, ri_eq3, ri_le4, ri_ge4, ri_lt4, ri_gt4, ri_eq4, ri_le5, ri_ge5, ri_lt5, ri_gt5, ri_eq5, ri_le10, ri_ge10, ri_lt10, ri_gt10, ri_eq10, ri_le12, ri_ge12, ri_lt12, ri_gt12, ri_eq12, ri_le16, ri_ge16, ri_lt16, ri_gt16, ri_eq16, ri_le20, ri_ge20, ri_lt20, ri_gt20, ri_eq20, ri_le32, ri_ge32, ri_lt32, ri_gt32, ri_eq32, ri_le80, ri_ge80, ri_lt80, ri_gt80, ri_eq80]
    grind
  · intro k i hi hf p
    have := SJ (5 * r + i)
    simp only [wX_needsFastPointMoved_2]
    simp (disch := omega) only [nI_clamp, ri_n_ap, ri_b_ap, ri_x_ap, ri_y_ap, ri_in, ri_B0, ri_B1, ri_nm2, ri_nm1, ri_cx_z, ri_cx_n, ri_cy_n, ri_cy_g, ri_cx_e, ri_cy_e, nI_1, nI_add, ri_mul5, ri_mul5', ri_mul2, ri_mul2', ri_add5, ri_div2, ri_two, ri_01, ri_10, nI_eq, nI_leI, nI_ltI, forall_eq, not_false_eq_true, true_and, and_true, not_true_eq_false, false_implies, implies_true, true_implies, ri_le0, ri_ge0, ri_lt0, ri_gt0, ri_eq0, ri_le1, ri_ge1, ri_lt1, ri_gt1, ri_eq1, ri_le2, ri_ge2, ri_lt2, ri_gt2, ri_eq2, ri_le3, ri_ge3, ri_lt3, ri_gt3, ri_eq3, ri_le4, ri_ge4, ri_lt4, ri_gt4, ri_eq4, ri_le5, ri_ge5, ri_lt5, ri_gt5, ri_eq5, ri_le10, ri_ge10, ri_lt10, ri_gt10, ri_eq10, ri_le12, ri_ge12, ri_lt12, ri_gt12, ri_eq12, ri_le16, ri_ge16, ri_lt16, ri_gt16, ri_eq16, ri_le20, ri_ge20, ri_lt20, ri_gt20, ri_eq20, ri_le32, ri_ge32, ri_lt32, ri_gt32, ri_eq32, ri_le80, ri_ge80, ri_lt80, ri_gt80, ri_eq80]
    refine ⟨by omega, fun z => absurd z (by omega), fun _ => ⟨by omega, by omega, ?_⟩⟩
    refine rx_fa (FO _) (SJ _) hR HG CT EJ PS RL SJ FO FT ?_
    simp (disch := omega) only [nI_clamp, ri_n_ap, ri_b_ap, ri_x_ap, ri_y_ap, ri_in, ri_B0, ri_B1, ri_nm2, ri_nm1, ri_cx_z, ri_cx_n, ri_cy_n, ri_cy_g, ri_cx_e, ri_cy_e, nI_1, nI_add, ri_mul5, ri_mul5', ri_mul2, ri_mul2', ri_add5, ri_div2, ri_two, ri_01, ri_10, nI_eq, nI_leI, nI_ltI, forall_eq, not_false_eq_true, true_and, and_true, not_true_eq_false, false_implies, implies_true, true_implies, ri_le0, ri_ge0, ri_lt0, ri_gt0, ri_eq0, ri_le1, ri_ge1, ri_lt1, ri_gt1, ri_eq1, ri_le2, ri_ge2, ri_lt2, ri_gt2, ri_eq2, ri_le3, ri_ge3, ri_lt3, ri_gt3, ri_eq3, ri_le4, ri_ge4, ri_lt4, ri_gt4, ri_eq4, ri_le5, ri_ge5, ri_lt5, ri_gt5, ri_eq5, ri_le10, ri_ge10, ri_lt10, ri_gt10, ri_eq10, ri_le12, ri_ge12, ri_lt12, ri_gt12, ri_eq12, ri_le16, ri_ge16, ri_lt16, ri_gt16, ri_eq16, ri_le20, ri_ge20, ri_lt20, ri_gt20, ri_eq20, ri_le32, ri_ge32, ri_lt32, ri_gt32, ri_eq32, ri_le80, ri_ge80, ri_lt80, ri_gt80, ri_eq80]
    refine br_c (fun z => ⟨by omega, ?_⟩) (fun _ => p)
    refine rx_fa (FT _) (SJ _) hR HG CT EJ PS RL SJ FO FT ?_
    simp (disch := omega) only [nI_clamp, ri_n_ap, ri_b_ap, ri_x_ap, ri_y_ap, ri_in, ri_B0, ri_B1, ri_nm2, ri_nm1, ri_cx_z, ri_cx_n, ri_cy_n, ri_cy_g, ri_cx_e, ri_cy_e, nI_1, nI_add, ri_mul5, ri_mul5', ri_mul2, ri_mul2', ri_add5, ri_div2, ri_two, ri_01, ri_10, nI_eq, nI_leI, nI_ltI, forall_eq, not_false_eq_true, true_and, and_true, not_true_eq_false, false_implies, implies_true, true_implies, ri_le0, ri_ge0, ri_lt0, ri_gt0, ri_eq0, ri_le1, ri_ge1, ri_lt1, ri_gt1, ri_eq1, ri_le2, ri_ge2, ri_lt2, ri_gt2, ri_eq2, ri_le3, ri_ge3, ri_lt3, ri_gt3, ri_eq3, ri_le4, ri_ge4, ri_lt4, ri_gt4, ri_eq4, ri_le5, ri_ge5, ri_lt5, ri_gt5, ri_eq5, ri_le10, ri_ge10, ri_lt10, ri_gt10, ri_eq10, ri_le12, ri_ge12, ri_lt12, ri_gt12, ri_eq12, ri_le16, ri_ge16, ri_lt16, ri_gt16, ri_eq16, ri_le20, ri_ge20, ri_lt20, ri_gt20, ri_eq20, ri_le32, ri_ge32, ri_lt32, ri_gt32, ri_eq32, ri_le80, ri_ge80, ri_lt80, ri_gt80, ri_eq80]
    refine br_c (fun z2 => ?_) (fun _ => p)
    rw [z, z2] at hf; exact absurd hf (by decide)
  · intro k i hi hf p
    have := SJ (5 * r + i)
    simp only [Bool.or_eq_false_iff] at hf
    simp only [wX_needsFastPointMoved_2]
    simp (disch := omega) only [nI_clamp, ri_n_ap, ri_b_ap, ri_x_ap, ri_y_ap, ri_in, ri_B0, ri_B1, ri_nm2, ri_nm1, ri_cx_z, ri_cx_n, ri_cy_n, ri_cy_g, ri_cx_e, ri_cy_e, nI_1, nI_add, ri_mul5, ri_mul5', ri_mul2, ri_mul2', ri_add5, ri_div2, ri_two, ri_01, ri_10, nI_eq, nI_leI, nI_ltI, forall_eq, not_false_eq_true, true_and, and_true, not_true_eq_false, false_implies, implies_true, true_implies, ri_le0, ri_ge0, ri_lt0, ri_gt0, ri_eq0, ri_le1, ri_ge1, ri_lt1, ri_gt1, ri_eq1, ri_le2, ri_ge2, ri_lt2, ri_gt2, ri_eq2, ri_le3, ri_ge3, ri_lt3, ri_gt3, ri_eq3, ri_le4, ri_ge4, ri_lt4, ri_gt4, ri_eq4, ri_le5, ri_ge5, ri_lt5, ri_gt5, ri_eq5, ri_le10, ri_ge10, ri_lt10, ri_gt10, ri_eq10, ri_le12, ri_ge12, ri_lt12, ri_gt12, ri_eq12, ri_le16, ri_ge16, ri_lt16, ri_gt16, ri_eq16, ri_le20, ri_ge20, ri_lt20, ri_gt20, ri_eq20, ri_le32, ri_ge32, ri_lt32, ri_gt32, ri_eq32, ri_le80, ri_ge80, ri_lt80, ri_gt80, ri_eq80]
    refine ⟨by omega, fun z => absurd z (by omega), fun _ => ⟨by omega, by omega, ?_⟩⟩
    refine rx_fa (FO _) (SJ _) hR HG CT EJ PS RL SJ FO FT ?_
    simp (disch := omega) only [nI_clamp, ri_n_ap, ri_b_ap, ri_x_ap, ri_y_ap, ri_in, ri_B0, ri_B1, ri_nm2, ri_nm1, ri_cx_z, ri_cx_n, ri_cy_n, ri_cy_g, ri_cx_e, ri_cy_e, nI_1, nI_add, ri_mul5, ri_mul5', ri_mul2, ri_mul2', ri_add5, ri_div2, ri_two, ri_01, ri_10, nI_eq, nI_leI, nI_ltI, forall_eq, not_false_eq_true, true_and, and_true, not_true_eq_false, false_implies, implies_true, true_implies, ri_le0, ri_ge0, ri_lt0, ri_gt0, ri_eq0, ri_le1, ri_ge1, ri_lt1, ri_gt1, ri_eq1, ri_le2, ri_ge2, ri_lt2, ri_gt2, ri_eq2, ri_le3, ri_ge3, ri_lt3, ri_gt3, ri_eq3, ri_le4, ri_ge4, ri_lt4, ri_gt4, ri_eq4, ri_le5, ri_ge5, ri_lt5, ri_gt5, ri_eq5, ri_le10, ri_ge10, ri_lt10, ri_gt10, ri_eq10, ri_le12, ri_ge12, ri_lt12, ri_gt12, ri_eq12, ri_le16, ri_ge16, ri_lt16, ri_gt16, ri_eq16, ri_le20, ri_ge20, ri_lt20, ri_gt20, ri_eq20, ri_le32, ri_ge32, ri_lt32, ri_gt32, ri_eq32, ri_le80, ri_ge80, ri_lt80, ri_gt80, ri_eq80]
    refine br_t hf.1 ⟨by omega, ?_⟩
    refine rx_fa (FT _) (SJ _) hR HG CT EJ PS RL SJ FO FT ?_
    simp (disch := omega) only [nI_clamp, ri_n_ap, ri_b_ap, ri_x_ap, ri_y_ap, ri_in, ri_B0, ri_B1, ri_nm2, ri_nm1, ri_cx_z, ri_cx_n, ri_cy_n, ri_cy_g, ri_cx_e, ri_cy_e, nI_1, nI_add, ri_mul5, ri_mul5', ri_mul2, ri_mul2', ri_add5, ri_div2, ri_two, ri_01, ri_10, nI_eq, nI_leI, nI_ltI, forall_eq, not_false_eq_true, true_and, and_true, not_true_eq_false, false_implies, implies_true, true_implies, ri_le0, ri_ge0, ri_lt0, ri_gt0, ri_eq0, ri_le1, ri_ge1, ri_lt1, ri_gt1, ri_eq1, ri_le2, ri_ge2, ri_lt2, ri_gt2, ri_eq2, ri_le3, ri_ge3, ri_lt3, ri_gt3, ri_eq3, ri_le4, ri_ge4, ri_lt4, ri_gt4, ri_eq4, ri_le5, ri_ge5, ri_lt5, ri_gt5, ri_eq5, ri_le10, ri_ge10, ri_lt10, ri_gt10, ri_eq10, ri_le12, ri_ge12, ri_lt12, ri_gt12, ri_eq12, ri_le16, ri_ge16, ri_lt16, ri_gt16, ri_eq16, ri_le20, ri_ge20, ri_lt20, ri_gt20, ri_eq20, ri_le32, ri_ge32, ri_lt32, ri_gt32, ri_eq32, ri_le80, ri_ge80, ri_lt80, ri_gt80, ri_eq80]
    exact br_t hf.2 p
theorem rx_obs {post : Int32 → Prop} {r : Nat} (hr : r < 16) (hR : R ≤ 16) (HG : ∀ t, hg t ≤ 20) (LK : ∀ s, lk s ≤ 16) (CT : ∀ a, ct a ≤ 2) (EJ : ∀ i, ej i < 12) (PS : ∀ a, ps a ≤ 1) (RL : ∀ r, rl r ≤ 5) (SJ : ∀ i, sj i < 12) (SE : ∀ i, se i < 20) (FO : ∀ j, fo j < 20) (FT : ∀ j, ft j < 20) (h : post (nI (ri_obs (ri_eocc hg rl se r) (ri_elck lk rl se r) (ri_nfp R fo ft ct ej ps rl sj hd hg r) (st r)))) : wpX_obstacleFor post (sX J R fo ft ct ej ps sg rs rl sj se cb st wt hd lk hg un dn) (nI r) := by
  simp only [wpX_obstacleFor]
  simp (disch := omega) only [nI_clamp, ri_n_ap, ri_b_ap, ri_x_ap, ri_y_ap, ri_in, ri_B0, ri_B1, ri_nm2, ri_nm1, ri_cx_z, ri_cx_n, ri_cy_n, ri_cy_g, ri_cx_e, ri_cy_e, nI_1, nI_add, ri_mul5, ri_mul5', ri_mul2, ri_mul2', ri_add5, ri_div2, ri_two, ri_01, ri_10, nI_eq, nI_leI, nI_ltI, forall_eq, not_false_eq_true, true_and, and_true, not_true_eq_false, false_implies, implies_true, true_implies, ri_le0, ri_ge0, ri_lt0, ri_gt0, ri_eq0, ri_le1, ri_ge1, ri_lt1, ri_gt1, ri_eq1, ri_le2, ri_ge2, ri_lt2, ri_gt2, ri_eq2, ri_le3, ri_ge3, ri_lt3, ri_gt3, ri_eq3, ri_le4, ri_ge4, ri_lt4, ri_gt4, ri_eq4, ri_le5, ri_ge5, ri_lt5, ri_gt5, ri_eq5, ri_le10, ri_ge10, ri_lt10, ri_gt10, ri_eq10, ri_le12, ri_ge12, ri_lt12, ri_gt12, ri_eq12, ri_le16, ri_ge16, ri_lt16, ri_gt16, ri_eq16, ri_le20, ri_ge20, ri_lt20, ri_gt20, ri_eq20, ri_le32, ri_ge32, ri_lt32, ri_gt32, ri_eq32, ri_le80, ri_ge80, ri_lt80, ri_gt80, ri_eq80]
  refine ⟨by omega, br_c (fun z => ?_) (fun z => ?_)⟩
  · refine rx_eocc hr HG RL SE ?_
    simp (disch := omega) only [nI_clamp, ri_n_ap, ri_b_ap, ri_x_ap, ri_y_ap, ri_in, ri_B0, ri_B1, ri_nm2, ri_nm1, ri_cx_z, ri_cx_n, ri_cy_n, ri_cy_g, ri_cx_e, ri_cy_e, nI_1, nI_add, ri_mul5, ri_mul5', ri_mul2, ri_mul2', ri_add5, ri_div2, ri_two, ri_01, ri_10, nI_eq, nI_leI, nI_ltI, forall_eq, not_false_eq_true, true_and, and_true, not_true_eq_false, false_implies, implies_true, true_implies, ri_le0, ri_ge0, ri_lt0, ri_gt0, ri_eq0, ri_le1, ri_ge1, ri_lt1, ri_gt1, ri_eq1, ri_le2, ri_ge2, ri_lt2, ri_gt2, ri_eq2, ri_le3, ri_ge3, ri_lt3, ri_gt3, ri_eq3, ri_le4, ri_ge4, ri_lt4, ri_gt4, ri_eq4, ri_le5, ri_ge5, ri_lt5, ri_gt5, ri_eq5, ri_le10, ri_ge10, ri_lt10, ri_gt10, ri_eq10, ri_le12, ri_ge12, ri_lt12, ri_gt12, ri_eq12, ri_le16, ri_ge16, ri_lt16, ri_gt16, ri_eq16, ri_le20, ri_ge20, ri_lt20, ri_gt20, ri_eq20, ri_le32, ri_ge32, ri_lt32, ri_gt32, ri_eq32, ri_le80, ri_ge80, ri_lt80, ri_gt80, ri_eq80]
    refine br_c (fun z2 => ?_) (fun z2 => ?_)
    · refine rx_elck hr LK RL SE ?_
      simp (disch := omega) only [nI_clamp, ri_n_ap, ri_b_ap, ri_x_ap, ri_y_ap, ri_in, ri_B0, ri_B1, ri_nm2, ri_nm1, ri_cx_z, ri_cx_n, ri_cy_n, ri_cy_g, ri_cx_e, ri_cy_e, nI_1, nI_add, ri_mul5, ri_mul5', ri_mul2, ri_mul2', ri_add5, ri_div2, ri_two, ri_01, ri_10, nI_eq, nI_leI, nI_ltI, forall_eq, not_false_eq_true, true_and, and_true, not_true_eq_false, false_implies, implies_true, true_implies, ri_le0, ri_ge0, ri_lt0, ri_gt0, ri_eq0, ri_le1, ri_ge1, ri_lt1, ri_gt1, ri_eq1, ri_le2, ri_ge2, ri_lt2, ri_gt2, ri_eq2, ri_le3, ri_ge3, ri_lt3, ri_gt3, ri_eq3, ri_le4, ri_ge4, ri_lt4, ri_gt4, ri_eq4, ri_le5, ri_ge5, ri_lt5, ri_gt5, ri_eq5, ri_le10, ri_ge10, ri_lt10, ri_gt10, ri_eq10, ri_le12, ri_ge12, ri_lt12, ri_gt12, ri_eq12, ri_le16, ri_ge16, ri_lt16, ri_gt16, ri_eq16, ri_le20, ri_ge20, ri_lt20, ri_gt20, ri_eq20, ri_le32, ri_ge32, ri_lt32, ri_gt32, ri_eq32, ri_le80, ri_ge80, ri_lt80, ri_gt80, ri_eq80]
      refine br_c (fun z3 => ?_) (fun z3 => ?_)
      · refine rx_nfp hr hR HG CT EJ PS RL SJ FO FT ?_
        simp (disch := omega) only [nI_clamp, ri_n_ap, ri_b_ap, ri_x_ap, ri_y_ap, ri_in, ri_B0, ri_B1, ri_nm2, ri_nm1, ri_cx_z, ri_cx_n, ri_cy_n, ri_cy_g, ri_cx_e, ri_cy_e, nI_1, nI_add, ri_mul5, ri_mul5', ri_mul2, ri_mul2', ri_add5, ri_div2, ri_two, ri_01, ri_10, nI_eq, nI_leI, nI_ltI, forall_eq, not_false_eq_true, true_and, and_true, not_true_eq_false, false_implies, implies_true, true_implies, ri_le0, ri_ge0, ri_lt0, ri_gt0, ri_eq0, ri_le1, ri_ge1, ri_lt1, ri_gt1, ri_eq1, ri_le2, ri_ge2, ri_lt2, ri_gt2, ri_eq2, ri_le3, ri_ge3, ri_lt3, ri_gt3, ri_eq3, ri_le4, ri_ge4, ri_lt4, ri_gt4, ri_eq4, ri_le5, ri_ge5, ri_lt5, ri_gt5, ri_eq5, ri_le10, ri_ge10, ri_lt10, ri_gt10, ri_eq10, ri_le12, ri_ge12, ri_lt12, ri_gt12, ri_eq12, ri_le16, ri_ge16, ri_lt16, ri_gt16, ri_eq16, ri_le20, ri_ge20, ri_lt20, ri_gt20, ri_eq20, ri_le32, ri_ge32, ri_lt32, ri_gt32, ri_eq32, ri_le80, ri_ge80, ri_lt80, ri_gt80, ri_eq80]
        refine br_c (fun z4 => ?_) (fun z4 => ?_)
        · rw [z, z2, z3, z4] at h; exact h
        · rw [Bool.not_eq_false] at z4; rw [z, z2, z3, z4] at h; exact h
      · rw [Bool.not_eq_false] at z3; rw [z, z2, z3] at h; exact h
    · rw [Bool.not_eq_false] at z2; rw [z, z2] at h; exact h
  · rw [Bool.not_eq_false] at z; rw [z] at h; exact h
theorem rx_open {post : Int32 → Prop} {e : Nat} (he : e < 20) (hR : R ≤ 16) (RS : ∀ r, rs r < 20) (WT : ∀ r, wt r ≤ 3) (UN : ∀ t, un t ≤ 16) (h : post (ri_cx (ri_ff (fun r => decide (rs r = e) && (st r && (decide (wt r = 0) && !ri_trav un r))) R))) : wpX_openRouteFrom post (sX J R fo ft ct ej ps sg rs rl sj se cb st wt hd lk hg un dn) (nI e) := by
  refine ri_sf (fun k i => wX_openRouteFrom_2 post (nI e) (nI J) (nI R) (ri_n fo) (ri_n ft) (ri_n ct) (ri_n ej) (ri_n ps) (ri_b sg) (ri_n rs) (ri_n rl) (ri_n sj) (ri_n se) cb (ri_b st) (ri_n wt) (ri_b hd) (ri_x lk) (ri_x hg) (ri_x un) (ri_n dn) k (nI i)) (fun m => post (ri_cx m)) _ R h ?_ ?_ ?_
  · intro k p
    simp only [wX_openRouteFrom_2]
    simp (disch := omega) only [nI_clamp, ri_n_ap, ri_b_ap, ri_x_ap, ri_y_ap, ri_in, ri_B0, ri_B1, ri_nm2, ri_nm1, ri_cx_z, ri_cx_n, ri_cy_n, ri_cy_g, ri_cx_e, ri_cy_e, nI_1, nI_add, ri_mul5, ri_mul5', ri_mul2, ri_mul2', ri_add5, ri_div2, ri_two, ri_01, ri_10, nI_eq, nI_leI, nI_ltI, forall_eq, not_false_eq_true, true_and, and_true, not_true_eq_false, false_implies, implies_true, true_implies, ri_le0, ri_ge0, ri_lt0, ri_gt0, ri_eq0, ri_le1, ri_ge1, ri_lt1, ri_gt1, ri_eq1, ri_le2, ri_ge2, ri_lt2, ri_gt2, ri_eq2, ri_le3, ri_ge3, ri_lt3, ri_gt3, ri_eq3, ri_le4, ri_ge4, ri_lt4, ri_gt4, ri_eq4, ri_le5, ri_ge5, ri_lt5, ri_gt5, ri_eq5, ri_le10, ri_ge10, ri_lt10, ri_gt10, ri_eq10, ri_le12, ri_ge12, ri_lt12, ri_gt12, ri_eq12, ri_le16, ri_ge16, ri_lt16, ri_gt16, ri_eq16, ri_le20, ri_ge20, ri_lt20, ri_gt20, ri_eq20, ri_le32, ri_ge32, ri_lt32, ri_gt32, ri_eq32, ri_le80, ri_ge80, ri_lt80, ri_gt80, ri_eq80]
    exact br_t (Nat.le_refl _) p
  · intro k i hi hf p
    have := RS i
    have := WT i
    simp only [Bool.and_eq_true, decide_eq_true_eq, Bool.not_eq_true'] at hf
    simp only [wX_openRouteFrom_2]
    simp (disch := omega) only [nI_clamp, ri_n_ap, ri_b_ap, ri_x_ap, ri_y_ap, ri_in, ri_B0, ri_B1, ri_nm2, ri_nm1, ri_cx_z, ri_cx_n, ri_cy_n, ri_cy_g, ri_cx_e, ri_cy_e, nI_1, nI_add, ri_mul5, ri_mul5', ri_mul2, ri_mul2', ri_add5, ri_div2, ri_two, ri_01, ri_10, nI_eq, nI_leI, nI_ltI, forall_eq, not_false_eq_true, true_and, and_true, not_true_eq_false, false_implies, implies_true, true_implies, ri_le0, ri_ge0, ri_lt0, ri_gt0, ri_eq0, ri_le1, ri_ge1, ri_lt1, ri_gt1, ri_eq1, ri_le2, ri_ge2, ri_lt2, ri_gt2, ri_eq2, ri_le3, ri_ge3, ri_lt3, ri_gt3, ri_eq3, ri_le4, ri_ge4, ri_lt4, ri_gt4, ri_eq4, ri_le5, ri_ge5, ri_lt5, ri_gt5, ri_eq5, ri_le10, ri_ge10, ri_lt10, ri_gt10, ri_eq10, ri_le12, ri_ge12, ri_lt12, ri_gt12, ri_eq12, ri_le16, ri_ge16, ri_lt16, ri_gt16, ri_eq16, ri_le20, ri_ge20, ri_lt20, ri_gt20, ri_eq20, ri_le32, ri_ge32, ri_lt32, ri_gt32, ri_eq32, ri_le80, ri_ge80, ri_lt80, ri_gt80, ri_eq80]
    refine br_f (by omega) ⟨by omega, br_t hf.1 ⟨by omega, br_f (by rw [hf.2.1]; decide) ⟨by omega, br_t hf.2.2.1 ?_⟩⟩⟩
    refine rx_trav (by omega) UN ?_
    simp (disch := omega) only [nI_clamp, ri_n_ap, ri_b_ap, ri_x_ap, ri_y_ap, ri_in, ri_B0, ri_B1, ri_nm2, ri_nm1, ri_cx_z, ri_cx_n, ri_cy_n, ri_cy_g, ri_cx_e, ri_cy_e, nI_1, nI_add, ri_mul5, ri_mul5', ri_mul2, ri_mul2', ri_add5, ri_div2, ri_two, ri_01, ri_10, nI_eq, nI_leI, nI_ltI, forall_eq, not_false_eq_true, true_and, and_true, not_true_eq_false, false_implies, implies_true, true_implies, ri_le0, ri_ge0, ri_lt0, ri_gt0, ri_eq0, ri_le1, ri_ge1, ri_lt1, ri_gt1, ri_eq1, ri_le2, ri_ge2, ri_lt2, ri_gt2, ri_eq2, ri_le3, ri_ge3, ri_lt3, ri_gt3, ri_eq3, ri_le4, ri_ge4, ri_lt4, ri_gt4, ri_eq4, ri_le5, ri_ge5, ri_lt5, ri_gt5, ri_eq5, ri_le10, ri_ge10, ri_lt10, ri_gt10, ri_eq10, ri_le12, ri_ge12, ri_lt12, ri_gt12, ri_eq12, ri_le16, ri_ge16, ri_lt16, ri_gt16, ri_eq16, ri_le20, ri_ge20, ri_lt20, ri_gt20, ri_eq20, ri_le32, ri_ge32, ri_lt32, ri_gt32, ri_eq32, ri_le80, ri_ge80, ri_lt80, ri_gt80, ri_eq80]
    exact br_t hf.2.2.2 p
  · intro k i hi hf p
    have := RS i
    have := WT i
    simp only [wX_openRouteFrom_2]
    simp (disch := omega) only [nI_clamp, ri_n_ap, ri_b_ap, ri_x_ap, ri_y_ap, ri_in, ri_B0, ri_B1, ri_nm2, ri_nm1, ri_cx_z, ri_cx_n, ri_cy_n, ri_cy_g, ri_cx_e, ri_cy_e, nI_1, nI_add, ri_mul5, ri_mul5', ri_mul2, ri_mul2', ri_add5, ri_div2, ri_two, ri_01, ri_10, nI_eq, nI_leI, nI_ltI, forall_eq, not_false_eq_true, true_and, and_true, not_true_eq_false, false_implies, implies_true, true_implies, ri_le0, ri_ge0, ri_lt0, ri_gt0, ri_eq0, ri_le1, ri_ge1, ri_lt1, ri_gt1, ri_eq1, ri_le2, ri_ge2, ri_lt2, ri_gt2, ri_eq2, ri_le3, ri_ge3, ri_lt3, ri_gt3, ri_eq3, ri_le4, ri_ge4, ri_lt4, ri_gt4, ri_eq4, ri_le5, ri_ge5, ri_lt5, ri_gt5, ri_eq5, ri_le10, ri_ge10, ri_lt10, ri_gt10, ri_eq10, ri_le12, ri_ge12, ri_lt12, ri_gt12, ri_eq12, ri_le16, ri_ge16, ri_lt16, ri_gt16, ri_eq16, ri_le20, ri_ge20, ri_lt20, ri_gt20, ri_eq20, ri_le32, ri_ge32, ri_lt32, ri_gt32, ri_eq32, ri_le80, ri_ge80, ri_lt80, ri_gt80, ri_eq80]
    refine br_f (by omega) ⟨by omega, br_c (fun z1 => ⟨by omega, br_c (fun _ => p) (fun z2 => ⟨by omega, br_c (fun z3 => ?_) (fun _ => p)⟩)⟩) (fun _ => p)⟩
    refine rx_trav (by omega) UN ?_
    simp (disch := omega) only [nI_clamp, ri_n_ap, ri_b_ap, ri_x_ap, ri_y_ap, ri_in, ri_B0, ri_B1, ri_nm2, ri_nm1, ri_cx_z, ri_cx_n, ri_cy_n, ri_cy_g, ri_cx_e, ri_cy_e, nI_1, nI_add, ri_mul5, ri_mul5', ri_mul2, ri_mul2', ri_add5, ri_div2, ri_two, ri_01, ri_10, nI_eq, nI_leI, nI_ltI, forall_eq, not_false_eq_true, true_and, and_true, not_true_eq_false, false_implies, implies_true, true_implies, ri_le0, ri_ge0, ri_lt0, ri_gt0, ri_eq0, ri_le1, ri_ge1, ri_lt1, ri_gt1, ri_eq1, ri_le2, ri_ge2, ri_lt2, ri_gt2, ri_eq2, ri_le3, ri_ge3, ri_lt3, ri_gt3, ri_eq3, ri_le4, ri_ge4, ri_lt4, ri_gt4, ri_eq4, ri_le5, ri_ge5, ri_lt5, ri_gt5, ri_eq5, ri_le10, ri_ge10, ri_lt10, ri_gt10, ri_eq10, ri_le12, ri_ge12, ri_lt12, ri_gt12, ri_eq12, ri_le16, ri_ge16, ri_lt16, ri_gt16, ri_eq16, ri_le20, ri_ge20, ri_lt20, ri_gt20, ri_eq20, ri_le32, ri_ge32, ri_lt32, ri_gt32, ri_eq32, ri_le80, ri_ge80, ri_lt80, ri_gt80, ri_eq80]
    refine br_c (fun z4 => ?_) (fun _ => p)
    rw [Bool.not_eq_false] at z2
    rw [decide_eq_true z1, z2, decide_eq_true z3, z4] at hf
    exact absurd hf (by decide)
end
end
section
section
variable {J R : Nat} {fo ft ct ej ps : Nat → Nat} {sg : Nat → Bool} {rs rl sj se : Nat → Nat} {cb : Nat → Int32} {st : Nat → Bool} {wt : Nat → Nat} {hd : Nat → Bool} {lk hg un dn : Nat → Nat} {rv mt nx : Nat → Int32}
theorem ri_cy_e' {v m : Nat} (h : v < 2 ^ 31) (hm : m < 2 ^ 31) : (nI m = ri_cy v) ↔ v = m + 1 := by
  rw [← ri_cy_e h hm]; exact eq_comm
def ri_J (J : Nat) (fo ft ct ej : Nat → Nat) : Prop := J ≤ 12 ∧ (∀ j, fo j < 20) ∧ (∀ j, ft j < 20) ∧ (∀ a, ct a ≤ 2) ∧ (∀ i, ej i < 12) ∧ (∀ j, j < J → fo j / 2 ≠ ft j / 2) ∧ (∀ a, a < 20 → ct a = ri_cn (ri_at fo ft a) J) ∧ (∀ a, a < 20 → ∀ j, j < J → ri_at fo ft a j = true → ej (2 * a + ri_cn (ri_at fo ft a) j) = j)
theorem ry_in1 {post : Int32 → Prop} {p q : Int32} (h0 : ¬ p < 0) (h1 : ¬ q < p) (h : post 1) : wpY_in post (sY J R fo ft sg ps rs rl sj se st wt hd lk hg un dn rv mt nx) p 0 q := br_f h0 (br_f h1 h)
theorem ry_in0 {post : Int32 → Prop} {p q : Int32} (h1 : p < 0 ∨ q < p) (h : post 0) : wpY_in post (sY J R fo ft sg ps rs rl sj se st wt hd lk hg un dn rv mt nx) p 0 q := by
  rcases h1 with z | z
  · exact br_t z h
  · exact br_c (fun _ => h) (fun _ => br_t z h)
theorem ry_isR1 {post : Int32 → Prop} {r : Nat} (hR : R ≤ 16) (hr : r < R) (h : post 1) : wpY_isRoute post (sY J R fo ft sg ps rs rl sj se st wt hd lk hg un dn rv mt nx) (nI r) := by
  simp only [wpY_isRoute]
  refine ry_in1 (nI_pos (by omega)) ?_ ⟨rfl, h⟩
  rw [ri_sub1 (by omega)]
  exact nI_nlt (by omega) (by omega)
theorem ry_isR0 {post : Int32 → Prop} {v : Int32} (hR : R ≤ 16) (hv : v < 0 ∨ nI R ≤ v) (h : post 0) : wpY_isRoute post (sY J R fo ft sg ps rs rl sj se st wt hd lk hg un dn rv mt nx) v := by
  simp only [wpY_isRoute]
  refine ry_in0 ?_ ⟨rfl, h⟩
  by_cases z : v < 0
  · exact Or.inl z
  · right
    have hv := hv.resolve_left z
    obtain ⟨m, hm, rfl⟩ := nI_of z
    rw [nI_leI (by omega) hm] at hv
    rw [Int32.lt_iff_toInt_lt, nI_toInt hm, show (1 : Int32) = nI 1 from rfl, pk_sub_toInt (by omega) (by omega)]
    omega
theorem rx_isR1 {post : Int32 → Prop} {r : Nat} (hR : R ≤ 16) (hr : r < R) (h : post 1) : wpX_isRoute post (sX J R fo ft ct ej ps sg rs rl sj se cb st wt hd lk hg un dn) (nI r) := br_f (nI_pos (by omega)) (br_f (nI_ge hr (by omega)) h)
theorem rx_isR0 {post : Int32 → Prop} {v : Int32} (hv : v < 0 ∨ nI R ≤ v) (h : post 0) : wpX_isRoute post (sX J R fo ft ct ej ps sg rs rl sj se cb st wt hd lk hg un dn) v := by
  rcases hv with z | z
  · exact br_t z h
  · exact br_c (fun _ => h) (fun _ => br_t z h)
theorem rx_isE1 {post : Int32 → Prop} {a : Nat} (ha : a < 20) (h : post 1) : wpX_isEnd post (sX J R fo ft ct ej ps sg rs rl sj se cb st wt hd lk hg un dn) (nI a) := br_f (nI_pos (by omega)) (br_f (nI_ge (b := 20) ha (by omega)) h)
theorem rx_isE0 {post : Int32 → Prop} {v : Int32} (hv : v < 0 ∨ nI 20 ≤ v) (h : post 0) : wpX_isEnd post (sX J R fo ft ct ej ps sg rs rl sj se cb st wt hd lk hg un dn) v := by
  rcases hv with z | z
  · exact br_t z h
  · exact br_c (fun _ => h) (fun _ => br_t z h)
theorem rx_isT1 {post : Int32 → Prop} {a : Nat} (ha : a < 3) (h : post 1) : wpX_isTrain post (sX J R fo ft ct ej ps sg rs rl sj se cb st wt hd lk hg un dn) (nI a) := br_f (nI_pos (by omega)) (br_f (nI_ge (b := 3) ha (by omega)) h)
theorem rx_isT0 {post : Int32 → Prop} {v : Int32} (hv : v < 0 ∨ nI 3 ≤ v) (h : post 0) : wpX_isTrain post (sX J R fo ft ct ej ps sg rs rl sj se cb st wt hd lk hg un dn) v := by
  rcases hv with z | z
  · exact br_t z h
  · exact br_c (fun _ => h) (fun _ => br_t z h)
theorem rx_isS1 {post : Int32 → Prop} {a : Nat} (ha : a < 10) (h : post 1) : wpX_isSection post (sX J R fo ft ct ej ps sg rs rl sj se cb st wt hd lk hg un dn) (nI a) := br_f (nI_pos (by omega)) (br_f (nI_ge (b := 10) ha (by omega)) h)
theorem rx_isS0 {post : Int32 → Prop} {v : Int32} (hv : v < 0 ∨ nI 10 ≤ v) (h : post 0) : wpX_isSection post (sX J R fo ft ct ej ps sg rs rl sj se cb st wt hd lk hg un dn) v := by
  rcases hv with z | z
  · exact br_t z h
  · exact br_c (fun _ => h) (fun _ => br_t z h)
theorem ri_cut (v : Int32) {N : Nat} (hN : N < 2 ^ 31) : (v < 0 ∨ nI N ≤ v) ∨ ∃ j, j < N ∧ v = nI j := by
  rcases pk_ix v hN with z | z | z
  · exact Or.inl (Or.inl z)
  · exact Or.inl (Or.inr z)
  · exact Or.inr z
theorem ry_inN0 {post : Int32 → Prop} {v : Int32} (N : Nat) (hN : N < 2 ^ 30) (hv : v < 0 ∨ nI (N + 1) ≤ v) (h : post 0) : wpY_in post (sY J R fo ft sg ps rs rl sj se st wt hd lk hg un dn rv mt nx) v 0 (nI N) := by
  refine ry_in0 ?_ h
  rcases hv with z | z
  · exact Or.inl z
  · by_cases y : v < 0
    · exact Or.inl y
    · right
      obtain ⟨m, hm, rfl⟩ := nI_of y
      rw [nI_leI (by omega) hm] at z
      exact nI_lt (by omega) hm
theorem ry_inN1 {post : Int32 → Prop} {a : Nat} (N : Nat) (hN : N < 2 ^ 30) (ha : a < N + 1) (h : post 1) : wpY_in post (sY J R fo ft sg ps rs rl sj se st wt hd lk hg un dn rv mt nx) (nI a) 0 (nI N) :=
  ry_in1 (nI_pos (by omega)) (nI_nlt (by omega) (by omega)) h
theorem ry_busy {post : Int32 → Prop} (HG : ∀ t, hg t ≤ 20) (h : post (ri_B (ri_busy 16 st hg))) : wpY_isBusy post (sY J R fo ft sg ps rs rl sj se st wt hd lk hg un dn rv mt nx) := by
  have h2 : ri_ba (fun t => decide (hg t ≠ 0)) 3 = false → ∃ n, wY_isBusy_26 post (nI J) (nI R) (ri_n fo) (ri_n ft) (ri_b sg) (ri_n ps) (ri_n rs) (ri_n rl) (ri_n sj) (ri_n se) (ri_b st) (ri_n wt) (ri_b hd) (ri_x lk) (ri_y hg) (ri_y un) (ri_n dn) rv mt nx n 0 := by
    intro z
    rw [ri_busy, z, Bool.false_or] at h
    refine ri_scB (fun k i => wY_isBusy_26 post (nI J) (nI R) (ri_n fo) (ri_n ft) (ri_b sg) (ri_n ps) (ri_n rs) (ri_n rl) (ri_n sj) (ri_n se) (ri_b st) (ri_n wt) (ri_b hd) (ri_x lk) (ri_y hg) (ri_y un) (ri_n dn) rv mt nx k (nI i)) post st 16 h ?_ ?_ ?_
    · intro k p
      simp only [wY_isBusy_26]
      simp (disch := omega) only [nI_clamp, ri_n_ap, ri_b_ap, ri_x_ap, ri_y_ap, ri_in, ri_B0, ri_B1, ri_nm2, ri_nm1, ri_cx_z, ri_cx_n, ri_cy_n, ri_cy_g, ri_cx_e, ri_cy_e, nI_1, nI_add, ri_mul5, ri_mul5', ri_mul2, ri_mul2', ri_add5, ri_div2, ri_two, ri_01, ri_10, nI_eq, nI_leI, nI_ltI, forall_eq, not_false_eq_true, true_and, and_true, not_true_eq_false, false_implies, implies_true, true_implies, ri_le0, ri_ge0, ri_lt0, ri_gt0, ri_eq0, ri_le1, ri_ge1, ri_lt1, ri_gt1, ri_eq1, ri_le2, ri_ge2, ri_lt2, ri_gt2, ri_eq2, ri_le3, ri_ge3, ri_lt3, ri_gt3, ri_eq3, ri_le4, ri_ge4, ri_lt4, ri_gt4, ri_eq4, ri_le5, ri_ge5, ri_lt5, ri_gt5, ri_eq5, ri_le10, ri_ge10, ri_lt10, ri_gt10, ri_eq10, ri_le12, ri_ge12, ri_lt12, ri_gt12, ri_eq12, ri_le16, ri_ge16, ri_lt16, ri_gt16, ri_eq16, ri_le20, ri_ge20, ri_lt20, ri_gt20, ri_eq20, ri_le32, ri_ge32, ri_lt32, ri_gt32, ri_eq32, ri_le80, ri_ge80, ri_lt80, ri_gt80, ri_eq80]
      grind
    · intro k i hi hf p
      simp only [wY_isBusy_26]
      simp (disch := omega) only [nI_clamp, ri_n_ap, ri_b_ap, ri_x_ap, ri_y_ap, ri_in, ri_B0, ri_B1, ri_nm2, ri_nm1, ri_cx_z, ri_cx_n, ri_cy_n, ri_cy_g, ri_cx_e, ri_cy_e, nI_1, nI_add, ri_mul5, ri_mul5', ri_mul2, ri_mul2', ri_add5, ri_div2, ri_two, ri_01, ri_10, nI_eq, nI_leI, nI_ltI, forall_eq, not_false_eq_true, true_and, and_true, not_true_eq_false, false_implies, implies_true, true_implies, ri_le0, ri_ge0, ri_lt0, ri_gt0, ri_eq0, ri_le1, ri_ge1, ri_lt1, ri_gt1, ri_eq1, ri_le2, ri_ge2, ri_lt2, ri_gt2, ri_eq2, ri_le3, ri_ge3, ri_lt3, ri_gt3, ri_eq3, ri_le4, ri_ge4, ri_lt4, ri_gt4, ri_eq4, ri_le5, ri_ge5, ri_lt5, ri_gt5, ri_eq5, ri_le10, ri_ge10, ri_lt10, ri_gt10, ri_eq10, ri_le12, ri_ge12, ri_lt12, ri_gt12, ri_eq12, ri_le16, ri_ge16, ri_lt16, ri_gt16, ri_eq16, ri_le20, ri_ge20, ri_lt20, ri_gt20, ri_eq20, ri_le32, ri_ge32, ri_lt32, ri_gt32, ri_eq32, ri_le80, ri_ge80, ri_lt80, ri_gt80, ri_eq80]
      grind
    · intro k i hi hf p
      simp only [wY_isBusy_26]
      simp (disch := omega) only [nI_clamp, ri_n_ap, ri_b_ap, ri_x_ap, ri_y_ap, ri_in, ri_B0, ri_B1, ri_nm2, ri_nm1, ri_cx_z, ri_cx_n, ri_cy_n, ri_cy_g, ri_cx_e, ri_cy_e, nI_1, nI_add, ri_mul5, ri_mul5', ri_mul2, ri_mul2', ri_add5, ri_div2, ri_two, ri_01, ri_10, nI_eq, nI_leI, nI_ltI, forall_eq, not_false_eq_true, true_and, and_true, not_true_eq_false, false_implies, implies_true, true_implies, ri_le0, ri_ge0, ri_lt0, ri_gt0, ri_eq0, ri_le1, ri_ge1, ri_lt1, ri_gt1, ri_eq1, ri_le2, ri_ge2, ri_lt2, ri_gt2, ri_eq2, ri_le3, ri_ge3, ri_lt3, ri_gt3, ri_eq3, ri_le4, ri_ge4, ri_lt4, ri_gt4, ri_eq4, ri_le5, ri_ge5, ri_lt5, ri_gt5, ri_eq5, ri_le10, ri_ge10, ri_lt10, ri_gt10, ri_eq10, ri_le12, ri_ge12, ri_lt12, ri_gt12, ri_eq12, ri_le16, ri_ge16, ri_lt16, ri_gt16, ri_eq16, ri_le20, ri_ge20, ri_lt20, ri_gt20, ri_eq20, ri_le32, ri_ge32, ri_lt32, ri_gt32, ri_eq32, ri_le80, ri_ge80, ri_lt80, ri_gt80, ri_eq80]
      grind
  refine ri_sc (fun k i => wY_isBusy_2 post (nI J) (nI R) (ri_n fo) (ri_n ft) (ri_b sg) (ri_n ps) (ri_n rs) (ri_n rl) (ri_n sj) (ri_n se) (ri_b st) (ri_n wt) (ri_b hd) (ri_x lk) (ri_y hg) (ri_y un) (ri_n dn) rv mt nx k (nI i)) (∃ n, wY_isBusy_26 post (nI J) (nI R) (ri_n fo) (ri_n ft) (ri_b sg) (ri_n ps) (ri_n rs) (ri_n rl) (ri_n sj) (ri_n se) (ri_b st) (ri_n wt) (ri_b hd) (ri_x lk) (ri_y hg) (ri_y un) (ri_n dn) rv mt nx n 0) (post 1) (fun t => decide (hg t ≠ 0)) 3 ?_ ?_ ?_ h2 (fun e => by rw [ri_busy, e] at h; exact h)
  · intro k p
    simp only [wY_isBusy_2]
    simp (disch := omega) only [nI_clamp, ri_n_ap, ri_b_ap, ri_x_ap, ri_y_ap, ri_in, ri_B0, ri_B1, ri_nm2, ri_nm1, ri_cx_z, ri_cx_n, ri_cy_n, ri_cy_g, ri_cx_e, ri_cy_e, nI_1, nI_add, ri_mul5, ri_mul5', ri_mul2, ri_mul2', ri_add5, ri_div2, ri_two, ri_01, ri_10, nI_eq, nI_leI, nI_ltI, forall_eq, not_false_eq_true, true_and, and_true, not_true_eq_false, false_implies, implies_true, true_implies, ri_le0, ri_ge0, ri_lt0, ri_gt0, ri_eq0, ri_le1, ri_ge1, ri_lt1, ri_gt1, ri_eq1, ri_le2, ri_ge2, ri_lt2, ri_gt2, ri_eq2, ri_le3, ri_ge3, ri_lt3, ri_gt3, ri_eq3, ri_le4, ri_ge4, ri_lt4, ri_gt4, ri_eq4, ri_le5, ri_ge5, ri_lt5, ri_gt5, ri_eq5, ri_le10, ri_ge10, ri_lt10, ri_gt10, ri_eq10, ri_le12, ri_ge12, ri_lt12, ri_gt12, ri_eq12, ri_le16, ri_ge16, ri_lt16, ri_gt16, ri_eq16, ri_le20, ri_ge20, ri_lt20, ri_gt20, ri_eq20, ri_le32, ri_ge32, ri_lt32, ri_gt32, ri_eq32, ri_le80, ri_ge80, ri_lt80, ri_gt80, ri_eq80]
    grind
  · intro k i hi hf p
    have := HG i
    simp only [wY_isBusy_2]
    simp (disch := omega) only [nI_clamp, ri_n_ap, ri_b_ap, ri_x_ap, ri_y_ap, ri_in, ri_B0, ri_B1, ri_nm2, ri_nm1, ri_cx_z, ri_cx_n, ri_cy_n, ri_cy_g, ri_cx_e, ri_cy_e, nI_1, nI_add, ri_mul5, ri_mul5', ri_mul2, ri_mul2', ri_add5, ri_div2, ri_two, ri_01, ri_10, nI_eq, nI_leI, nI_ltI, forall_eq, not_false_eq_true, true_and, and_true, not_true_eq_false, false_implies, implies_true, true_implies, ri_le0, ri_ge0, ri_lt0, ri_gt0, ri_eq0, ri_le1, ri_ge1, ri_lt1, ri_gt1, ri_eq1, ri_le2, ri_ge2, ri_lt2, ri_gt2, ri_eq2, ri_le3, ri_ge3, ri_lt3, ri_gt3, ri_eq3, ri_le4, ri_ge4, ri_lt4, ri_gt4, ri_eq4, ri_le5, ri_ge5, ri_lt5, ri_gt5, ri_eq5, ri_le10, ri_ge10, ri_lt10, ri_gt10, ri_eq10, ri_le12, ri_ge12, ri_lt12, ri_gt12, ri_eq12, ri_le16, ri_ge16, ri_lt16, ri_gt16, ri_eq16, ri_le20, ri_ge20, ri_lt20, ri_gt20, ri_eq20, ri_le32, ri_ge32, ri_lt32, ri_gt32, ri_eq32, ri_le80, ri_ge80, ri_lt80, ri_gt80, ri_eq80]
    grind
  · intro k i hi hf p
    have := HG i
    simp only [wY_isBusy_2]
    simp (disch := omega) only [nI_clamp, ri_n_ap, ri_b_ap, ri_x_ap, ri_y_ap, ri_in, ri_B0, ri_B1, ri_nm2, ri_nm1, ri_cx_z, ri_cx_n, ri_cy_n, ri_cy_g, ri_cx_e, ri_cy_e, nI_1, nI_add, ri_mul5, ri_mul5', ri_mul2, ri_mul2', ri_add5, ri_div2, ri_two, ri_01, ri_10, nI_eq, nI_leI, nI_ltI, forall_eq, not_false_eq_true, true_and, and_true, not_true_eq_false, false_implies, implies_true, true_implies, ri_le0, ri_ge0, ri_lt0, ri_gt0, ri_eq0, ri_le1, ri_ge1, ri_lt1, ri_gt1, ri_eq1, ri_le2, ri_ge2, ri_lt2, ri_gt2, ri_eq2, ri_le3, ri_ge3, ri_lt3, ri_gt3, ri_eq3, ri_le4, ri_ge4, ri_lt4, ri_gt4, ri_eq4, ri_le5, ri_ge5, ri_lt5, ri_gt5, ri_eq5, ri_le10, ri_ge10, ri_lt10, ri_gt10, ri_eq10, ri_le12, ri_ge12, ri_lt12, ri_gt12, ri_eq12, ri_le16, ri_ge16, ri_lt16, ri_gt16, ri_eq16, ri_le20, ri_ge20, ri_lt20, ri_gt20, ri_eq20, ri_le32, ri_ge32, ri_lt32, ri_gt32, ri_eq32, ri_le80, ri_ge80, ri_lt80, ri_gt80, ri_eq80]
    grind
theorem ry_occ {post : Int32 → Prop} {s : Nat} (hs : s < 100) (HG : ∀ t, hg t ≤ 20) (h : post (ri_B (ri_occ hg s))) : wpY_isOccupied post (sY J R fo ft sg ps rs rl sj se st wt hd lk hg un dn rv mt nx) (nI s) := by
  refine ri_scB (fun k i => wY_isOccupied_2 post (nI s) (nI J) (nI R) (ri_n fo) (ri_n ft) (ri_b sg) (ri_n ps) (ri_n rs) (ri_n rl) (ri_n sj) (ri_n se) (ri_b st) (ri_n wt) (ri_b hd) (ri_x lk) (ri_y hg) (ri_y un) (ri_n dn) rv mt nx k (nI i)) post _ 3 h ?_ ?_ ?_
  · intro k p
    simp only [wY_isOccupied_2]
    simp (disch := omega) only [nI_clamp, ri_n_ap, ri_b_ap, ri_x_ap, ri_y_ap, ri_in, ri_B0, ri_B1, ri_nm2, ri_nm1, ri_cx_z, ri_cx_n, ri_cy_n, ri_cy_g, ri_cx_e, ri_cy_e, nI_1, nI_add, ri_mul5, ri_mul5', ri_mul2, ri_mul2', ri_add5, ri_div2, ri_two, ri_01, ri_10, nI_eq, nI_leI, nI_ltI, forall_eq, not_false_eq_true, true_and, and_true, not_true_eq_false, false_implies, implies_true, true_implies, ri_le0, ri_ge0, ri_lt0, ri_gt0, ri_eq0, ri_le1, ri_ge1, ri_lt1, ri_gt1, ri_eq1, ri_le2, ri_ge2, ri_lt2, ri_gt2, ri_eq2, ri_le3, ri_ge3, ri_lt3, ri_gt3, ri_eq3, ri_le4, ri_ge4, ri_lt4, ri_gt4, ri_eq4, ri_le5, ri_ge5, ri_lt5, ri_gt5, ri_eq5, ri_le10, ri_ge10, ri_lt10, ri_gt10, ri_eq10, ri_le12, ri_ge12, ri_lt12, ri_gt12, ri_eq12, ri_le16, ri_ge16, ri_lt16, ri_gt16, ri_eq16, ri_le20, ri_ge20, ri_lt20, ri_gt20, ri_eq20, ri_le32, ri_ge32, ri_lt32, ri_gt32, ri_eq32, ri_le80, ri_ge80, ri_lt80, ri_gt80, ri_eq80]
    grind
  · intro k i hi hf p
    have := HG i
    simp only [Bool.and_eq_true, decide_eq_true_eq] at hf
    simp only [wY_isOccupied_2]
    simp (disch := omega) only [nI_clamp, ri_y_ap, ri_cy_p hf.1]
    simp (disch := omega) only [nI_clamp, ri_n_ap, ri_b_ap, ri_x_ap, ri_y_ap, ri_in, ri_B0, ri_B1, ri_nm2, ri_nm1, ri_cx_z, ri_cx_n, ri_cy_n, ri_cy_g, ri_cx_e, ri_cy_e, nI_1, nI_add, ri_mul5, ri_mul5', ri_mul2, ri_mul2', ri_add5, ri_div2, ri_two, ri_01, ri_10, nI_eq, nI_leI, nI_ltI, forall_eq, not_false_eq_true, true_and, and_true, not_true_eq_false, false_implies, implies_true, true_implies, ri_le0, ri_ge0, ri_lt0, ri_gt0, ri_eq0, ri_le1, ri_ge1, ri_lt1, ri_gt1, ri_eq1, ri_le2, ri_ge2, ri_lt2, ri_gt2, ri_eq2, ri_le3, ri_ge3, ri_lt3, ri_gt3, ri_eq3, ri_le4, ri_ge4, ri_lt4, ri_gt4, ri_eq4, ri_le5, ri_ge5, ri_lt5, ri_gt5, ri_eq5, ri_le10, ri_ge10, ri_lt10, ri_gt10, ri_eq10, ri_le12, ri_ge12, ri_lt12, ri_gt12, ri_eq12, ri_le16, ri_ge16, ri_lt16, ri_gt16, ri_eq16, ri_le20, ri_ge20, ri_lt20, ri_gt20, ri_eq20, ri_le32, ri_ge32, ri_lt32, ri_gt32, ri_eq32, ri_le80, ri_ge80, ri_lt80, ri_gt80, ri_eq80]
    grind
  · intro k i hi hf p
    have := HG i
    simp only [wY_isOccupied_2]
    by_cases z : hg i = 0
    · simp (disch := omega) only [nI_clamp, ri_n_ap, ri_b_ap, ri_x_ap, ri_y_ap, ri_in, ri_B0, ri_B1, ri_nm2, ri_nm1, ri_cx_z, ri_cx_n, ri_cy_n, ri_cy_g, ri_cx_e, ri_cy_e, nI_1, nI_add, ri_mul5, ri_mul5', ri_mul2, ri_mul2', ri_add5, ri_div2, ri_two, ri_01, ri_10, nI_eq, nI_leI, nI_ltI, forall_eq, not_false_eq_true, true_and, and_true, not_true_eq_false, false_implies, implies_true, true_implies, ri_le0, ri_ge0, ri_lt0, ri_gt0, ri_eq0, ri_le1, ri_ge1, ri_lt1, ri_gt1, ri_eq1, ri_le2, ri_ge2, ri_lt2, ri_gt2, ri_eq2, ri_le3, ri_ge3, ri_lt3, ri_gt3, ri_eq3, ri_le4, ri_ge4, ri_lt4, ri_gt4, ri_eq4, ri_le5, ri_ge5, ri_lt5, ri_gt5, ri_eq5, ri_le10, ri_ge10, ri_lt10, ri_gt10, ri_eq10, ri_le12, ri_ge12, ri_lt12, ri_gt12, ri_eq12, ri_le16, ri_ge16, ri_lt16, ri_gt16, ri_eq16, ri_le20, ri_ge20, ri_lt20, ri_gt20, ri_eq20, ri_le32, ri_ge32, ri_lt32, ri_gt32, ri_eq32, ri_le80, ri_ge80, ri_lt80, ri_gt80, ri_eq80]
      grind
    · simp only [z, ne_eq, not_false_eq_true, decide_true, Bool.true_and, decide_eq_false_iff_not] at hf
      simp (disch := omega) only [nI_clamp, ri_y_ap, ri_cy_p z]
      simp (disch := omega) only [nI_clamp, ri_n_ap, ri_b_ap, ri_x_ap, ri_y_ap, ri_in, ri_B0, ri_B1, ri_nm2, ri_nm1, ri_cx_z, ri_cx_n, ri_cy_n, ri_cy_g, ri_cx_e, ri_cy_e, nI_1, nI_add, ri_mul5, ri_mul5', ri_mul2, ri_mul2', ri_add5, ri_div2, ri_two, ri_01, ri_10, nI_eq, nI_leI, nI_ltI, forall_eq, not_false_eq_true, true_and, and_true, not_true_eq_false, false_implies, implies_true, true_implies, ri_le0, ri_ge0, ri_lt0, ri_gt0, ri_eq0, ri_le1, ri_ge1, ri_lt1, ri_gt1, ri_eq1, ri_le2, ri_ge2, ri_lt2, ri_gt2, ri_eq2, ri_le3, ri_ge3, ri_lt3, ri_gt3, ri_eq3, ri_le4, ri_ge4, ri_lt4, ri_gt4, ri_eq4, ri_le5, ri_ge5, ri_lt5, ri_gt5, ri_eq5, ri_le10, ri_ge10, ri_lt10, ri_gt10, ri_eq10, ri_le12, ri_ge12, ri_lt12, ri_gt12, ri_eq12, ri_le16, ri_ge16, ri_lt16, ri_gt16, ri_eq16, ri_le20, ri_ge20, ri_lt20, ri_gt20, ri_eq20, ri_le32, ri_ge32, ri_lt32, ri_gt32, ri_eq32, ri_le80, ri_ge80, ri_lt80, ri_gt80, ri_eq80]
      grind
def ri_used (hg un : Nat → Nat) (r : Nat) : Bool := ri_ba (fun t => decide (hg t ≠ 0) && decide (un t = r + 1)) 3
theorem ry_used {post : Int32 → Prop} {r : Nat} (hr : r < 100) (HG : ∀ t, hg t ≤ 20) (UN : ∀ t, un t ≤ 16) (h : post (ri_B (ri_used hg un r))) : wpY_isUsed post (sY J R fo ft sg ps rs rl sj se st wt hd lk hg un dn rv mt nx) (nI r) := by
  refine ri_scB (fun k i => wY_isUsed_2 post (nI r) (nI J) (nI R) (ri_n fo) (ri_n ft) (ri_b sg) (ri_n ps) (ri_n rs) (ri_n rl) (ri_n sj) (ri_n se) (ri_b st) (ri_n wt) (ri_b hd) (ri_x lk) (ri_y hg) (ri_y un) (ri_n dn) rv mt nx k (nI i)) post _ 3 h ?_ ?_ ?_
  · intro k p
    simp only [wY_isUsed_2]
    simp (disch := omega) only [nI_clamp, ri_n_ap, ri_b_ap, ri_x_ap, ri_y_ap, ri_in, ri_B0, ri_B1, ri_nm2, ri_nm1, ri_cx_z, ri_cx_n, ri_cy_n, ri_cy_g, ri_cx_e, ri_cy_e, nI_1, nI_add, ri_mul5, ri_mul5', ri_mul2, ri_mul2', ri_add5, ri_div2, ri_two, ri_01, ri_10, nI_eq, nI_leI, nI_ltI, forall_eq, not_false_eq_true, true_and, and_true, not_true_eq_false, false_implies, implies_true, true_implies, ri_le0, ri_ge0, ri_lt0, ri_gt0, ri_eq0, ri_le1, ri_ge1, ri_lt1, ri_gt1, ri_eq1, ri_le2, ri_ge2, ri_lt2, ri_gt2, ri_eq2, ri_le3, ri_ge3, ri_lt3, ri_gt3, ri_eq3, ri_le4, ri_ge4, ri_lt4, ri_gt4, ri_eq4, ri_le5, ri_ge5, ri_lt5, ri_gt5, ri_eq5, ri_le10, ri_ge10, ri_lt10, ri_gt10, ri_eq10, ri_le12, ri_ge12, ri_lt12, ri_gt12, ri_eq12, ri_le16, ri_ge16, ri_lt16, ri_gt16, ri_eq16, ri_le20, ri_ge20, ri_lt20, ri_gt20, ri_eq20, ri_le32, ri_ge32, ri_lt32, ri_gt32, ri_eq32, ri_le80, ri_ge80, ri_lt80, ri_gt80, ri_eq80]
    grind
  · intro k i hi hf p
    have := HG i
    have := UN i
    simp only [Bool.and_eq_true, decide_eq_true_eq] at hf
    simp only [wY_isUsed_2]
    simp (disch := omega) only [nI_clamp, ri_n_ap, ri_b_ap, ri_x_ap, ri_y_ap, ri_in, ri_B0, ri_B1, ri_nm2, ri_nm1, ri_cx_z, ri_cx_n, ri_cy_n, ri_cy_g, ri_cx_e, ri_cy_e, nI_1, nI_add, ri_mul5, ri_mul5', ri_mul2, ri_mul2', ri_add5, ri_div2, ri_two, ri_01, ri_10, nI_eq, nI_leI, nI_ltI, forall_eq, not_false_eq_true, true_and, and_true, not_true_eq_false, false_implies, implies_true, true_implies, ri_le0, ri_ge0, ri_lt0, ri_gt0, ri_eq0, ri_le1, ri_ge1, ri_lt1, ri_gt1, ri_eq1, ri_le2, ri_ge2, ri_lt2, ri_gt2, ri_eq2, ri_le3, ri_ge3, ri_lt3, ri_gt3, ri_eq3, ri_le4, ri_ge4, ri_lt4, ri_gt4, ri_eq4, ri_le5, ri_ge5, ri_lt5, ri_gt5, ri_eq5, ri_le10, ri_ge10, ri_lt10, ri_gt10, ri_eq10, ri_le12, ri_ge12, ri_lt12, ri_gt12, ri_eq12, ri_le16, ri_ge16, ri_lt16, ri_gt16, ri_eq16, ri_le20, ri_ge20, ri_lt20, ri_gt20, ri_eq20, ri_le32, ri_ge32, ri_lt32, ri_gt32, ri_eq32, ri_le80, ri_ge80, ri_lt80, ri_gt80, ri_eq80]
    grind
  · intro k i hi hf p
    have := HG i
    have := UN i
    simp only [Bool.and_eq_false_iff, decide_eq_false_iff_not] at hf
    simp only [wY_isUsed_2]
    simp (disch := omega) only [nI_clamp, ri_n_ap, ri_b_ap, ri_x_ap, ri_y_ap, ri_in, ri_B0, ri_B1, ri_nm2, ri_nm1, ri_cx_z, ri_cx_n, ri_cy_n, ri_cy_g, ri_cx_e, ri_cy_e, nI_1, nI_add, ri_mul5, ri_mul5', ri_mul2, ri_mul2', ri_add5, ri_div2, ri_two, ri_01, ri_10, nI_eq, nI_leI, nI_ltI, forall_eq, not_false_eq_true, true_and, and_true, not_true_eq_false, false_implies, implies_true, true_implies, ri_le0, ri_ge0, ri_lt0, ri_gt0, ri_eq0, ri_le1, ri_ge1, ri_lt1, ri_gt1, ri_eq1, ri_le2, ri_ge2, ri_lt2, ri_gt2, ri_eq2, ri_le3, ri_ge3, ri_lt3, ri_gt3, ri_eq3, ri_le4, ri_ge4, ri_lt4, ri_gt4, ri_eq4, ri_le5, ri_ge5, ri_lt5, ri_gt5, ri_eq5, ri_le10, ri_ge10, ri_lt10, ri_gt10, ri_eq10, ri_le12, ri_ge12, ri_lt12, ri_gt12, ri_eq12, ri_le16, ri_ge16, ri_lt16, ri_gt16, ri_eq16, ri_le20, ri_ge20, ri_lt20, ri_gt20, ri_eq20, ri_le32, ri_ge32, ri_lt32, ri_gt32, ri_eq32, ri_le80, ri_ge80, ri_lt80, ri_gt80, ri_eq80]
    grind
theorem ry_rfor {post : Int32 → Prop} {t : Nat} (ht : t < 3) (hz : hg t ≠ 0) (hR : R ≤ 16) (HG : ∀ t, hg t ≤ 20) (RS : ∀ r, rs r < 20) (WT : ∀ r, wt r ≤ 3) (UN : ∀ t, un t ≤ 16) (h : post (ri_cy (ri_ff (fun r => decide (rs r = hg t - 1) && (st r && (decide (wt r = 0) && !ri_used hg un r))) R))) : wpY_routeFor post (sY J R fo ft sg ps rs rl sj se st wt hd lk hg un dn rv mt nx) (nI t) := by
  have hg0 := HG t
  refine ri_sf (fun k i => wY_routeFor_2 post (nI t) (nI J) (nI R) (ri_n fo) (ri_n ft) (ri_b sg) (ri_n ps) (ri_n rs) (ri_n rl) (ri_n sj) (ri_n se) (ri_b st) (ri_n wt) (ri_b hd) (ri_x lk) (ri_y hg) (ri_y un) (ri_n dn) rv mt nx k (nI i)) (fun m => post (ri_cy m)) _ R h ?_ ?_ ?_
  · intro k p
    simp only [wY_routeFor_2]
    simp (disch := omega) only [nI_clamp, ri_n_ap, ri_b_ap, ri_x_ap, ri_y_ap, ri_in, ri_B0, ri_B1, ri_nm2, ri_nm1, ri_cx_z, ri_cx_n, ri_cy_n, ri_cy_g, ri_cx_e, ri_cy_e, nI_1, nI_add, ri_mul5, ri_mul5', ri_mul2, ri_mul2', ri_add5, ri_div2, ri_two, ri_01, ri_10, nI_eq, nI_leI, nI_ltI, forall_eq, not_false_eq_true, true_and, and_true, not_true_eq_false, false_implies, implies_true, true_implies, ri_le0, ri_ge0, ri_lt0, ri_gt0, ri_eq0, ri_le1, ri_ge1, ri_lt1, ri_gt1, ri_eq1, ri_le2, ri_ge2, ri_lt2, ri_gt2, ri_eq2, ri_le3, ri_ge3, ri_lt3, ri_gt3, ri_eq3, ri_le4, ri_ge4, ri_lt4, ri_gt4, ri_eq4, ri_le5, ri_ge5, ri_lt5, ri_gt5, ri_eq5, ri_le10, ri_ge10, ri_lt10, ri_gt10, ri_eq10, ri_le12, ri_ge12, ri_lt12, ri_gt12, ri_eq12, ri_le16, ri_ge16, ri_lt16, ri_gt16, ri_eq16, ri_le20, ri_ge20, ri_lt20, ri_gt20, ri_eq20, ri_le32, ri_ge32, ri_lt32, ri_gt32, ri_eq32, ri_le80, ri_ge80, ri_lt80, ri_gt80, ri_eq80]
    exact br_t (Nat.le_refl _) p
  · intro k i hi hf p
    have := RS i
    have := WT i
    simp only [Bool.and_eq_true, decide_eq_true_eq, Bool.not_eq_true'] at hf
    simp only [wY_routeFor_2]
    simp (disch := omega) only [nI_clamp, ri_y_ap, ri_cy_p hz]
    simp (disch := omega) only [nI_clamp, ri_n_ap, ri_b_ap, ri_x_ap, ri_y_ap, ri_in, ri_B0, ri_B1, ri_nm2, ri_nm1, ri_cx_z, ri_cx_n, ri_cy_n, ri_cy_g, ri_cx_e, ri_cy_e, nI_1, nI_add, ri_mul5, ri_mul5', ri_mul2, ri_mul2', ri_add5, ri_div2, ri_two, ri_01, ri_10, nI_eq, nI_leI, nI_ltI, forall_eq, not_false_eq_true, true_and, and_true, not_true_eq_false, false_implies, implies_true, true_implies, ri_le0, ri_ge0, ri_lt0, ri_gt0, ri_eq0, ri_le1, ri_ge1, ri_lt1, ri_gt1, ri_eq1, ri_le2, ri_ge2, ri_lt2, ri_gt2, ri_eq2, ri_le3, ri_ge3, ri_lt3, ri_gt3, ri_eq3, ri_le4, ri_ge4, ri_lt4, ri_gt4, ri_eq4, ri_le5, ri_ge5, ri_lt5, ri_gt5, ri_eq5, ri_le10, ri_ge10, ri_lt10, ri_gt10, ri_eq10, ri_le12, ri_ge12, ri_lt12, ri_gt12, ri_eq12, ri_le16, ri_ge16, ri_lt16, ri_gt16, ri_eq16, ri_le20, ri_ge20, ri_lt20, ri_gt20, ri_eq20, ri_le32, ri_ge32, ri_lt32, ri_gt32, ri_eq32, ri_le80, ri_ge80, ri_lt80, ri_gt80, ri_eq80]
    refine br_f (by omega) ⟨by omega, br_f (by rw [hf.2.1]; decide) ⟨by omega, br_t hf.2.2.1 ⟨by omega, by omega, br_t hf.1 ?_⟩⟩⟩
    refine ry_used (by omega) HG UN ?_
    simp (disch := omega) only [nI_clamp, ri_n_ap, ri_b_ap, ri_x_ap, ri_y_ap, ri_in, ri_B0, ri_B1, ri_nm2, ri_nm1, ri_cx_z, ri_cx_n, ri_cy_n, ri_cy_g, ri_cx_e, ri_cy_e, nI_1, nI_add, ri_mul5, ri_mul5', ri_mul2, ri_mul2', ri_add5, ri_div2, ri_two, ri_01, ri_10, nI_eq, nI_leI, nI_ltI, forall_eq, not_false_eq_true, true_and, and_true, not_true_eq_false, false_implies, implies_true, true_implies, ri_le0, ri_ge0, ri_lt0, ri_gt0, ri_eq0, ri_le1, ri_ge1, ri_lt1, ri_gt1, ri_eq1, ri_le2, ri_ge2, ri_lt2, ri_gt2, ri_eq2, ri_le3, ri_ge3, ri_lt3, ri_gt3, ri_eq3, ri_le4, ri_ge4, ri_lt4, ri_gt4, ri_eq4, ri_le5, ri_ge5, ri_lt5, ri_gt5, ri_eq5, ri_le10, ri_ge10, ri_lt10, ri_gt10, ri_eq10, ri_le12, ri_ge12, ri_lt12, ri_gt12, ri_eq12, ri_le16, ri_ge16, ri_lt16, ri_gt16, ri_eq16, ri_le20, ri_ge20, ri_lt20, ri_gt20, ri_eq20, ri_le32, ri_ge32, ri_lt32, ri_gt32, ri_eq32, ri_le80, ri_ge80, ri_lt80, ri_gt80, ri_eq80]
    exact br_t hf.2.2.2 p
  · intro k i hi hf p
    have := RS i
    have := WT i
    simp only [wY_routeFor_2]
    simp (disch := omega) only [nI_clamp, ri_y_ap, ri_cy_p hz]
    simp (disch := omega) only [nI_clamp, ri_n_ap, ri_b_ap, ri_x_ap, ri_y_ap, ri_in, ri_B0, ri_B1, ri_nm2, ri_nm1, ri_cx_z, ri_cx_n, ri_cy_n, ri_cy_g, ri_cx_e, ri_cy_e, nI_1, nI_add, ri_mul5, ri_mul5', ri_mul2, ri_mul2', ri_add5, ri_div2, ri_two, ri_01, ri_10, nI_eq, nI_leI, nI_ltI, forall_eq, not_false_eq_true, true_and, and_true, not_true_eq_false, false_implies, implies_true, true_implies, ri_le0, ri_ge0, ri_lt0, ri_gt0, ri_eq0, ri_le1, ri_ge1, ri_lt1, ri_gt1, ri_eq1, ri_le2, ri_ge2, ri_lt2, ri_gt2, ri_eq2, ri_le3, ri_ge3, ri_lt3, ri_gt3, ri_eq3, ri_le4, ri_ge4, ri_lt4, ri_gt4, ri_eq4, ri_le5, ri_ge5, ri_lt5, ri_gt5, ri_eq5, ri_le10, ri_ge10, ri_lt10, ri_gt10, ri_eq10, ri_le12, ri_ge12, ri_lt12, ri_gt12, ri_eq12, ri_le16, ri_ge16, ri_lt16, ri_gt16, ri_eq16, ri_le20, ri_ge20, ri_lt20, ri_gt20, ri_eq20, ri_le32, ri_ge32, ri_lt32, ri_gt32, ri_eq32, ri_le80, ri_ge80, ri_lt80, ri_gt80, ri_eq80]
    refine br_f (by omega) ⟨by omega, br_c (fun _ => p) (fun z2 => ⟨by omega, br_c (fun z3 => ⟨by omega, by omega, br_c (fun z1 => ?_) (fun _ => p)⟩) (fun _ => p)⟩)⟩
    refine ry_used (by omega) HG UN ?_
    simp (disch := omega) only [nI_clamp, ri_n_ap, ri_b_ap, ri_x_ap, ri_y_ap, ri_in, ri_B0, ri_B1, ri_nm2, ri_nm1, ri_cx_z, ri_cx_n, ri_cy_n, ri_cy_g, ri_cx_e, ri_cy_e, nI_1, nI_add, ri_mul5, ri_mul5', ri_mul2, ri_mul2', ri_add5, ri_div2, ri_two, ri_01, ri_10, nI_eq, nI_leI, nI_ltI, forall_eq, not_false_eq_true, true_and, and_true, not_true_eq_false, false_implies, implies_true, true_implies, ri_le0, ri_ge0, ri_lt0, ri_gt0, ri_eq0, ri_le1, ri_ge1, ri_lt1, ri_gt1, ri_eq1, ri_le2, ri_ge2, ri_lt2, ri_gt2, ri_eq2, ri_le3, ri_ge3, ri_lt3, ri_gt3, ri_eq3, ri_le4, ri_ge4, ri_lt4, ri_gt4, ri_eq4, ri_le5, ri_ge5, ri_lt5, ri_gt5, ri_eq5, ri_le10, ri_ge10, ri_lt10, ri_gt10, ri_eq10, ri_le12, ri_ge12, ri_lt12, ri_gt12, ri_eq12, ri_le16, ri_ge16, ri_lt16, ri_gt16, ri_eq16, ri_le20, ri_ge20, ri_lt20, ri_gt20, ri_eq20, ri_le32, ri_ge32, ri_lt32, ri_gt32, ri_eq32, ri_le80, ri_ge80, ri_lt80, ri_gt80, ri_eq80]
    refine br_c (fun z4 => ?_) (fun _ => p)
    rw [Bool.not_eq_false] at z2
    rw [decide_eq_true z1, z2, decide_eq_true z3, z4] at hf
    exact absurd hf (by decide)
theorem ry_jats {post : Int32 → Prop} {a : Nat} (ha : a < 20) (HJ : ri_J J fo ft ct ej) (h : post (nI (ct a))) : wpY_jointsAt post (sY J R fo ft sg ps rs rl sj se st wt hd lk hg un dn rv mt nx) (nI a) := by
  obtain ⟨hJ, FO, FT, CT, EJ, -, H1, -⟩ := HJ
  rw [H1 a ha] at h
  refine ri_fo (fun k i => wY_jointsAt_4 post (nI a) (nI J) (nI R) (ri_n fo) (ri_n ft) (ri_b sg) (ri_n ps) (ri_n rs) (ri_n rl) (ri_n sj) (ri_n se) (ri_b st) (ri_n wt) (ri_b hd) (ri_x lk) (ri_y hg) (ri_y un) (ri_n dn) rv mt nx k (nI (ri_cn (ri_at fo ft a) i)) (nI i)) J ?_ ?_
  · intro k
    simp only [wY_jointsAt_4]
    simp (disch := omega) only [nI_clamp, ri_n_ap, ri_b_ap, ri_x_ap, ri_y_ap, ri_in, ri_B0, ri_B1, ri_nm2, ri_nm1, ri_cx_z, ri_cx_n, ri_cy_n, ri_cy_g, ri_cx_e, ri_cy_e, nI_1, nI_add, ri_mul5, ri_mul5', ri_mul2, ri_mul2', ri_add5, ri_div2, ri_two, ri_01, ri_10, nI_eq, nI_leI, nI_ltI, forall_eq, not_false_eq_true, true_and, and_true, not_true_eq_false, false_implies, implies_true, true_implies, ri_le0, ri_ge0, ri_lt0, ri_gt0, ri_eq0, ri_le1, ri_ge1, ri_lt1, ri_gt1, ri_eq1, ri_le2, ri_ge2, ri_lt2, ri_gt2, ri_eq2, ri_le3, ri_ge3, ri_lt3, ri_gt3, ri_eq3, ri_le4, ri_ge4, ri_lt4, ri_gt4, ri_eq4, ri_le5, ri_ge5, ri_lt5, ri_gt5, ri_eq5, ri_le10, ri_ge10, ri_lt10, ri_gt10, ri_eq10, ri_le12, ri_ge12, ri_lt12, ri_gt12, ri_eq12, ri_le16, ri_ge16, ri_lt16, ri_gt16, ri_eq16, ri_le20, ri_ge20, ri_lt20, ri_gt20, ri_eq20, ri_le32, ri_ge32, ri_lt32, ri_gt32, ri_eq32, ri_le80, ri_ge80, ri_lt80, ri_gt80, ri_eq80]
    exact br_t (Nat.le_refl _) h
  · intro k i hi p
    have := FO i
    have := FT i
    simp only [ri_cn, ri_at, Bool.or_eq_true, decide_eq_true_eq] at p
    simp only [wY_jointsAt_4]
    simp (disch := omega) only [nI_clamp, ri_n_ap, ri_b_ap, ri_x_ap, ri_y_ap, ri_in, ri_B0, ri_B1, ri_nm2, ri_nm1, ri_cx_z, ri_cx_n, ri_cy_n, ri_cy_g, ri_cx_e, ri_cy_e, nI_1, nI_add, ri_mul5, ri_mul5', ri_mul2, ri_mul2', ri_add5, ri_div2, ri_two, ri_01, ri_10, nI_eq, nI_leI, nI_ltI, forall_eq, not_false_eq_true, true_and, and_true, not_true_eq_false, false_implies, implies_true, true_implies, ri_le0, ri_ge0, ri_lt0, ri_gt0, ri_eq0, ri_le1, ri_ge1, ri_lt1, ri_gt1, ri_eq1, ri_le2, ri_ge2, ri_lt2, ri_gt2, ri_eq2, ri_le3, ri_ge3, ri_lt3, ri_gt3, ri_eq3, ri_le4, ri_ge4, ri_lt4, ri_gt4, ri_eq4, ri_le5, ri_ge5, ri_lt5, ri_gt5, ri_eq5, ri_le10, ri_ge10, ri_lt10, ri_gt10, ri_eq10, ri_le12, ri_ge12, ri_lt12, ri_gt12, ri_eq12, ri_le16, ri_ge16, ri_lt16, ri_gt16, ri_eq16, ri_le20, ri_ge20, ri_lt20, ri_gt20, ri_eq20, ri_le32, ri_ge32, ri_lt32, ri_gt32, ri_eq32, ri_le80, ri_ge80, ri_lt80, ri_gt80, ri_eq80]
    refine br_f (by omega) ⟨by omega, br_c (fun z => ?_) (fun z => ⟨by omega, br_c (fun z2 => ?_) (fun z2 => ?_)⟩)⟩
    · rw [if_pos (Or.inl z)] at p; exact p
    · rw [if_pos (Or.inr z2)] at p; exact p
    · rw [if_neg (fun w => w.elim z z2)] at p; exact p
theorem ry_jat {post : Int32 → Prop} {a q : Nat} (ha : a < 20) (hq : q < 100) (HJ : ri_J J fo ft ct ej) (h1 : q < ct a → post (nI (ej (2 * a + q)))) (h0 : ct a ≤ q → post (-1)) : wpY_jointAt post (sY J R fo ft sg ps rs rl sj se st wt hd lk hg un dn rv mt nx) (nI a) (nI q) := by
  obtain ⟨hJ, FO, FT, CT, EJ, -, H1, H2⟩ := HJ
  refine ri_sc (fun k i => wY_jointAt_5 post (nI a) (nI q) (nI J) (nI R) (ri_n fo) (ri_n ft) (ri_b sg) (ri_n ps) (ri_n rs) (ri_n rl) (ri_n sj) (ri_n se) (ri_b st) (ri_n wt) (ri_b hd) (ri_x lk) (ri_y hg) (ri_y un) (ri_n dn) rv mt nx k (nI (ri_cn (ri_at fo ft a) i)) (nI i)) (post (-1)) (post (nI (ej (2 * a + q)))) (fun i => ri_at fo ft a i && decide (ri_cn (ri_at fo ft a) i = q)) J ?_ ?_ ?_ ?_ ?_
  · intro k p
    simp only [wY_jointAt_5]
    simp (disch := omega) only [nI_clamp, ri_n_ap, ri_b_ap, ri_x_ap, ri_y_ap, ri_in, ri_B0, ri_B1, ri_nm2, ri_nm1, ri_cx_z, ri_cx_n, ri_cy_n, ri_cy_g, ri_cx_e, ri_cy_e, nI_1, nI_add, ri_mul5, ri_mul5', ri_mul2, ri_mul2', ri_add5, ri_div2, ri_two, ri_01, ri_10, nI_eq, nI_leI, nI_ltI, forall_eq, not_false_eq_true, true_and, and_true, not_true_eq_false, false_implies, implies_true, true_implies, ri_le0, ri_ge0, ri_lt0, ri_gt0, ri_eq0, ri_le1, ri_ge1, ri_lt1, ri_gt1, ri_eq1, ri_le2, ri_ge2, ri_lt2, ri_gt2, ri_eq2, ri_le3, ri_ge3, ri_lt3, ri_gt3, ri_eq3, ri_le4, ri_ge4, ri_lt4, ri_gt4, ri_eq4, ri_le5, ri_ge5, ri_lt5, ri_gt5, ri_eq5, ri_le10, ri_ge10, ri_lt10, ri_gt10, ri_eq10, ri_le12, ri_ge12, ri_lt12, ri_gt12, ri_eq12, ri_le16, ri_ge16, ri_lt16, ri_gt16, ri_eq16, ri_le20, ri_ge20, ri_lt20, ri_gt20, ri_eq20, ri_le32, ri_ge32, ri_lt32, ri_gt32, ri_eq32, ri_le80, ri_ge80, ri_lt80, ri_gt80, ri_eq80]
    exact br_t (Nat.le_refl _) p
  · intro k i hi hf p
    have := FO i
    have := FT i
    have := ri_cn_n (ri_at fo ft a) i
    simp only [Bool.and_eq_true, decide_eq_true_eq] at hf
    have e := H2 a ha i hi hf.1
    rw [hf.2] at e
    rw [e] at p
    have hf1 := hf.1
    simp only [ri_at, Bool.or_eq_true, decide_eq_true_eq] at hf1
    simp only [wY_jointAt_5, wY_jointAt_36]
    simp (disch := omega) only [nI_clamp, ri_n_ap, ri_b_ap, ri_x_ap, ri_y_ap, ri_in, ri_B0, ri_B1, ri_nm2, ri_nm1, ri_cx_z, ri_cx_n, ri_cy_n, ri_cy_g, ri_cx_e, ri_cy_e, nI_1, nI_add, ri_mul5, ri_mul5', ri_mul2, ri_mul2', ri_add5, ri_div2, ri_two, ri_01, ri_10, nI_eq, nI_leI, nI_ltI, forall_eq, not_false_eq_true, true_and, and_true, not_true_eq_false, false_implies, implies_true, true_implies, ri_le0, ri_ge0, ri_lt0, ri_gt0, ri_eq0, ri_le1, ri_ge1, ri_lt1, ri_gt1, ri_eq1, ri_le2, ri_ge2, ri_lt2, ri_gt2, ri_eq2, ri_le3, ri_ge3, ri_lt3, ri_gt3, ri_eq3, ri_le4, ri_ge4, ri_lt4, ri_gt4, ri_eq4, ri_le5, ri_ge5, ri_lt5, ri_gt5, ri_eq5, ri_le10, ri_ge10, ri_lt10, ri_gt10, ri_eq10, ri_le12, ri_ge12, ri_lt12, ri_gt12, ri_eq12, ri_le16, ri_ge16, ri_lt16, ri_gt16, ri_eq16, ri_le20, ri_ge20, ri_lt20, ri_gt20, ri_eq20, ri_le32, ri_ge32, ri_lt32, ri_gt32, ri_eq32, ri_le80, ri_ge80, ri_lt80, ri_gt80, ri_eq80]
    refine br_f (by omega) ⟨by omega, br_c (fun z => br_t hf.2 p) (fun z => ⟨by omega, br_t (hf1.resolve_left z) (br_t hf.2 p)⟩)⟩
  · intro k i hi hf p
    have := FO i
    have := FT i
    have := ri_cn_n (ri_at fo ft a) i
    simp only [ri_cn] at p
    have key : ri_at fo ft a i = true → ¬ ri_cn (ri_at fo ft a) i = q := by
      intro y z; rw [y, decide_eq_true z] at hf; exact absurd hf (by decide)
    simp only [wY_jointAt_5, wY_jointAt_36]
    simp (disch := omega) only [nI_clamp, ri_n_ap, ri_b_ap, ri_x_ap, ri_y_ap, ri_in, ri_B0, ri_B1, ri_nm2, ri_nm1, ri_cx_z, ri_cx_n, ri_cy_n, ri_cy_g, ri_cx_e, ri_cy_e, nI_1, nI_add, ri_mul5, ri_mul5', ri_mul2, ri_mul2', ri_add5, ri_div2, ri_two, ri_01, ri_10, nI_eq, nI_leI, nI_ltI, forall_eq, not_false_eq_true, true_and, and_true, not_true_eq_false, false_implies, implies_true, true_implies, ri_le0, ri_ge0, ri_lt0, ri_gt0, ri_eq0, ri_le1, ri_ge1, ri_lt1, ri_gt1, ri_eq1, ri_le2, ri_ge2, ri_lt2, ri_gt2, ri_eq2, ri_le3, ri_ge3, ri_lt3, ri_gt3, ri_eq3, ri_le4, ri_ge4, ri_lt4, ri_gt4, ri_eq4, ri_le5, ri_ge5, ri_lt5, ri_gt5, ri_eq5, ri_le10, ri_ge10, ri_lt10, ri_gt10, ri_eq10, ri_le12, ri_ge12, ri_lt12, ri_gt12, ri_eq12, ri_le16, ri_ge16, ri_lt16, ri_gt16, ri_eq16, ri_le20, ri_ge20, ri_lt20, ri_gt20, ri_eq20, ri_le32, ri_ge32, ri_lt32, ri_gt32, ri_eq32, ri_le80, ri_ge80, ri_lt80, ri_gt80, ri_eq80]
    refine br_f (by omega) ⟨by omega, br_c (fun z => ?_) (fun z => ⟨by omega, br_c (fun z2 => ?_) (fun z2 => ?_)⟩)⟩
    · have y : ri_at fo ft a i = true := by simp [ri_at, z]
      rw [if_pos y] at p; exact br_f (key y) p
    · have y : ri_at fo ft a i = true := by simp [ri_at, z2]
      rw [if_pos y] at p; exact br_f (key y) p
    · have y : ¬ ri_at fo ft a i = true := by simp [ri_at, z, z2]
      rw [if_neg y] at p; exact p
  · intro e
    refine h0 ?_
    rw [H1 a ha]
    refine Nat.le_of_not_lt fun z => ?_
    obtain ⟨i, y1, y2, y3⟩ := ri_cn_x J z
    have := ri_ba_f.mp e i y1
    simp [y2, y3] at this
  · intro e
    refine h1 ?_
    obtain ⟨i, y1, y2⟩ := ri_ba_t.mp e
    simp only [Bool.and_eq_true, decide_eq_true_eq] at y2
    rw [H1 a ha, ← y2.2]
    exact ri_cn_l y1 y2.1
def ri_eo (fo ft : Nat → Nat) (j z : Nat) : Nat := if z = 0 then fo j else ft j
def ri_nd (ct ej : Nat → Nat) (j a : Nat) : Nat := if ct a < 2 then 0 else if ej (2 * a) = j then 1 else 2
theorem ri_eo_lt {j z : Nat} (FO : ∀ j, fo j < 20) (FT : ∀ j, ft j < 20) : ri_eo fo ft j z < 20 := by
  unfold ri_eo; split
  · exact FO _
  · exact FT _
theorem ri_nd_le {j a : Nat} : ri_nd ct ej j a ≤ 2 := by
  unfold ri_nd
  split
  · omega
  · split <;> omega
theorem ry_nd0 {post : Int32 → Prop} {a j : Nat} (ha : a < 20) (hj : j < 12) (HJ : ri_J J fo ft ct ej) (h : post (ri_cy (ri_nd ct ej j a))) : wY_needed_19 post (nI j) (nI a) (nI J) (nI R) (ri_n fo) (ri_n ft) (ri_b sg) (ri_n ps) (ri_n rs) (ri_n rl) (ri_n sj) (ri_n se) (ri_b st) (ri_n wt) (ri_b hd) (ri_x lk) (ri_y hg) (ri_y un) (ri_n dn) rv mt nx := by
  simp only [wY_needed_19]
  refine ry_jats ha HJ ?_
  have := HJ.2.2.2.1 a
  unfold ri_nd at h
  simp (disch := omega) only [nI_clamp, ri_n_ap, ri_b_ap, ri_x_ap, ri_y_ap, ri_in, ri_B0, ri_B1, ri_nm2, ri_nm1, ri_cx_z, ri_cx_n, ri_cy_n, ri_cy_g, ri_cx_e, ri_cy_e, nI_1, nI_add, ri_mul5, ri_mul5', ri_mul2, ri_mul2', ri_add5, ri_div2, ri_two, ri_01, ri_10, nI_eq, nI_leI, nI_ltI, forall_eq, not_false_eq_true, true_and, and_true, not_true_eq_false, false_implies, implies_true, true_implies, ri_le0, ri_ge0, ri_lt0, ri_gt0, ri_eq0, ri_le1, ri_ge1, ri_lt1, ri_gt1, ri_eq1, ri_le2, ri_ge2, ri_lt2, ri_gt2, ri_eq2, ri_le3, ri_ge3, ri_lt3, ri_gt3, ri_eq3, ri_le4, ri_ge4, ri_lt4, ri_gt4, ri_eq4, ri_le5, ri_ge5, ri_lt5, ri_gt5, ri_eq5, ri_le10, ri_ge10, ri_lt10, ri_gt10, ri_eq10, ri_le12, ri_ge12, ri_lt12, ri_gt12, ri_eq12, ri_le16, ri_ge16, ri_lt16, ri_gt16, ri_eq16, ri_le20, ri_ge20, ri_lt20, ri_gt20, ri_eq20, ri_le32, ri_ge32, ri_lt32, ri_gt32, ri_eq32, ri_le80, ri_ge80, ri_lt80, ri_gt80, ri_eq80]
  refine br_c (fun z => ?_) (fun z => ?_)
  · refine ry_jat (q := 0) ha (by omega) HJ (fun _ => ?_) (fun y => absurd y (by omega))
    have := HJ.2.2.2.2.1 (2 * a)
    simp only [Nat.add_zero]
    simp (disch := omega) only [nI_clamp, ri_n_ap, ri_b_ap, ri_x_ap, ri_y_ap, ri_in, ri_B0, ri_B1, ri_nm2, ri_nm1, ri_cx_z, ri_cx_n, ri_cy_n, ri_cy_g, ri_cx_e, ri_cy_e, nI_1, nI_add, ri_mul5, ri_mul5', ri_mul2, ri_mul2', ri_add5, ri_div2, ri_two, ri_01, ri_10, nI_eq, nI_leI, nI_ltI, forall_eq, not_false_eq_true, true_and, and_true, not_true_eq_false, false_implies, implies_true, true_implies, ri_le0, ri_ge0, ri_lt0, ri_gt0, ri_eq0, ri_le1, ri_ge1, ri_lt1, ri_gt1, ri_eq1, ri_le2, ri_ge2, ri_lt2, ri_gt2, ri_eq2, ri_le3, ri_ge3, ri_lt3, ri_gt3, ri_eq3, ri_le4, ri_ge4, ri_lt4, ri_gt4, ri_eq4, ri_le5, ri_ge5, ri_lt5, ri_gt5, ri_eq5, ri_le10, ri_ge10, ri_lt10, ri_gt10, ri_eq10, ri_le12, ri_ge12, ri_lt12, ri_gt12, ri_eq12, ri_le16, ri_ge16, ri_lt16, ri_gt16, ri_eq16, ri_le20, ri_ge20, ri_lt20, ri_gt20, ri_eq20, ri_le32, ri_ge32, ri_lt32, ri_gt32, ri_eq32, ri_le80, ri_ge80, ri_lt80, ri_gt80, ri_eq80]
    rw [if_neg (by omega)] at h
    refine br_c (fun y => ?_) (fun y => ?_)
    · rw [if_pos y] at h; exact h
    · rw [if_neg y] at h; exact h
  · rw [if_pos (by omega)] at h; exact h
theorem ry_nd {post : Int32 → Prop} {j z : Nat} (hj : j < 12) (hz : z < 100) (HJ : ri_J J fo ft ct ej) (h : post (ri_cy (ri_nd ct ej j (ri_eo fo ft j z)))) : wpY_needed post (sY J R fo ft sg ps rs rl sj se st wt hd lk hg un dn rv mt nx) (nI j) (nI z) := by
  simp only [wpY_needed]
  simp (disch := omega) only [nI_clamp, ri_n_ap, ri_b_ap, ri_x_ap, ri_y_ap, ri_in, ri_B0, ri_B1, ri_nm2, ri_nm1, ri_cx_z, ri_cx_n, ri_cy_n, ri_cy_g, ri_cx_e, ri_cy_e, nI_1, nI_add, ri_mul5, ri_mul5', ri_mul2, ri_mul2', ri_add5, ri_div2, ri_two, ri_01, ri_10, nI_eq, nI_leI, nI_ltI, forall_eq, not_false_eq_true, true_and, and_true, not_true_eq_false, false_implies, implies_true, true_implies, ri_le0, ri_ge0, ri_lt0, ri_gt0, ri_eq0, ri_le1, ri_ge1, ri_lt1, ri_gt1, ri_eq1, ri_le2, ri_ge2, ri_lt2, ri_gt2, ri_eq2, ri_le3, ri_ge3, ri_lt3, ri_gt3, ri_eq3, ri_le4, ri_ge4, ri_lt4, ri_gt4, ri_eq4, ri_le5, ri_ge5, ri_lt5, ri_gt5, ri_eq5, ri_le10, ri_ge10, ri_lt10, ri_gt10, ri_eq10, ri_le12, ri_ge12, ri_lt12, ri_gt12, ri_eq12, ri_le16, ri_ge16, ri_lt16, ri_gt16, ri_eq16, ri_le20, ri_ge20, ri_lt20, ri_gt20, ri_eq20, ri_le32, ri_ge32, ri_lt32, ri_gt32, ri_eq32, ri_le80, ri_ge80, ri_lt80, ri_gt80, ri_eq80]
  unfold ri_eo at h
  refine br_c (fun y => ⟨hj, ?_⟩) (fun y => ⟨hj, ?_⟩)
  · rw [if_pos y] at h; exact ry_nd0 (HJ.2.1 _) hj HJ h
  · rw [if_neg y] at h; exact ry_nd0 (HJ.2.2.1 _) hj HJ h
theorem ry_eo {post : Int32 → Prop} {j z : Nat} (hj : j < 12) (hz : z < 100) (h : post (nI (ri_eo fo ft j z))) : wpY_endOf post (sY J R fo ft sg ps rs rl sj se st wt hd lk hg un dn rv mt nx) (nI j) (nI z) := by
  simp only [wpY_endOf]
  simp (disch := omega) only [nI_clamp, ri_n_ap, ri_b_ap, ri_x_ap, ri_y_ap, ri_in, ri_B0, ri_B1, ri_nm2, ri_nm1, ri_cx_z, ri_cx_n, ri_cy_n, ri_cy_g, ri_cx_e, ri_cy_e, nI_1, nI_add, ri_mul5, ri_mul5', ri_mul2, ri_mul2', ri_add5, ri_div2, ri_two, ri_01, ri_10, nI_eq, nI_leI, nI_ltI, forall_eq, not_false_eq_true, true_and, and_true, not_true_eq_false, false_implies, implies_true, true_implies, ri_le0, ri_ge0, ri_lt0, ri_gt0, ri_eq0, ri_le1, ri_ge1, ri_lt1, ri_gt1, ri_eq1, ri_le2, ri_ge2, ri_lt2, ri_gt2, ri_eq2, ri_le3, ri_ge3, ri_lt3, ri_gt3, ri_eq3, ri_le4, ri_ge4, ri_lt4, ri_gt4, ri_eq4, ri_le5, ri_ge5, ri_lt5, ri_gt5, ri_eq5, ri_le10, ri_ge10, ri_lt10, ri_gt10, ri_eq10, ri_le12, ri_ge12, ri_lt12, ri_gt12, ri_eq12, ri_le16, ri_ge16, ri_lt16, ri_gt16, ri_eq16, ri_le20, ri_ge20, ri_lt20, ri_gt20, ri_eq20, ri_le32, ri_ge32, ri_lt32, ri_gt32, ri_eq32, ri_le80, ri_ge80, ri_lt80, ri_gt80, ri_eq80]
  unfold ri_eo at h
  refine br_c (fun y => ⟨hj, ?_⟩) (fun y => ⟨hj, ?_⟩)
  · rw [if_pos y] at h; exact h
  · rw [if_neg y] at h; exact h
def ri_fst (fo ft sj : Nat → Nat) (hd : Nat → Bool) (hg : Nat → Nat) (a : Nat) : Bool := ri_occ hg (a / 2) || ri_ba (fun k => hd k && ri_at fo ft a (sj k)) 80
theorem ry_fst {post : Int32 → Prop} {a : Nat} (ha : a < 20) (HG : ∀ t, hg t ≤ 20) (SJ : ∀ i, sj i < 12) (FO : ∀ j, fo j < 20) (FT : ∀ j, ft j < 20) (h : post (ri_B (ri_fst fo ft sj hd hg a))) : wpY_isFast post (sY J R fo ft sg ps rs rl sj se st wt hd lk hg un dn rv mt nx) (nI a) := by
  simp only [wpY_isFast]
  simp (disch := omega) only [nI_clamp, ri_n_ap, ri_b_ap, ri_x_ap, ri_y_ap, ri_in, ri_B0, ri_B1, ri_nm2, ri_nm1, ri_cx_z, ri_cx_n, ri_cy_n, ri_cy_g, ri_cx_e, ri_cy_e, nI_1, nI_add, ri_mul5, ri_mul5', ri_mul2, ri_mul2', ri_add5, ri_div2, ri_two, ri_01, ri_10, nI_eq, nI_leI, nI_ltI, forall_eq, not_false_eq_true, true_and, and_true, not_true_eq_false, false_implies, implies_true, true_implies, ri_le0, ri_ge0, ri_lt0, ri_gt0, ri_eq0, ri_le1, ri_ge1, ri_lt1, ri_gt1, ri_eq1, ri_le2, ri_ge2, ri_lt2, ri_gt2, ri_eq2, ri_le3, ri_ge3, ri_lt3, ri_gt3, ri_eq3, ri_le4, ri_ge4, ri_lt4, ri_gt4, ri_eq4, ri_le5, ri_ge5, ri_lt5, ri_gt5, ri_eq5, ri_le10, ri_ge10, ri_lt10, ri_gt10, ri_eq10, ri_le12, ri_ge12, ri_lt12, ri_gt12, ri_eq12, ri_le16, ri_ge16, ri_lt16, ri_gt16, ri_eq16, ri_le20, ri_ge20, ri_lt20, ri_gt20, ri_eq20, ri_le32, ri_ge32, ri_lt32, ri_gt32, ri_eq32, ri_le80, ri_ge80, ri_lt80, ri_gt80, ri_eq80]
  refine ry_occ (by omega) HG ?_
  simp (disch := omega) only [nI_clamp, ri_n_ap, ri_b_ap, ri_x_ap, ri_y_ap, ri_in, ri_B0, ri_B1, ri_nm2, ri_nm1, ri_cx_z, ri_cx_n, ri_cy_n, ri_cy_g, ri_cx_e, ri_cy_e, nI_1, nI_add, ri_mul5, ri_mul5', ri_mul2, ri_mul2', ri_add5, ri_div2, ri_two, ri_01, ri_10, nI_eq, nI_leI, nI_ltI, forall_eq, not_false_eq_true, true_and, and_true, not_true_eq_false, false_implies, implies_true, true_implies, ri_le0, ri_ge0, ri_lt0, ri_gt0, ri_eq0, ri_le1, ri_ge1, ri_lt1, ri_gt1, ri_eq1, ri_le2, ri_ge2, ri_lt2, ri_gt2, ri_eq2, ri_le3, ri_ge3, ri_lt3, ri_gt3, ri_eq3, ri_le4, ri_ge4, ri_lt4, ri_gt4, ri_eq4, ri_le5, ri_ge5, ri_lt5, ri_gt5, ri_eq5, ri_le10, ri_ge10, ri_lt10, ri_gt10, ri_eq10, ri_le12, ri_ge12, ri_lt12, ri_gt12, ri_eq12, ri_le16, ri_ge16, ri_lt16, ri_gt16, ri_eq16, ri_le20, ri_ge20, ri_lt20, ri_gt20, ri_eq20, ri_le32, ri_ge32, ri_lt32, ri_gt32, ri_eq32, ri_le80, ri_ge80, ri_lt80, ri_gt80, ri_eq80]
  unfold ri_fst at h
  refine br_c (fun z => ?_) (fun z => ?_)
  · rw [z, Bool.false_or] at h
    refine ri_scB (fun k i => wY_isFast_14 post (nI a) (nI J) (nI R) (ri_n fo) (ri_n ft) (ri_b sg) (ri_n ps) (ri_n rs) (ri_n rl) (ri_n sj) (ri_n se) (ri_b st) (ri_n wt) (ri_b hd) (ri_x lk) (ri_y hg) (ri_y un) (ri_n dn) rv mt nx k (nI i)) post _ 80 h ?_ ?_ ?_
    · intro k p
      simp only [wY_isFast_14]
      simp (disch := omega) only [nI_clamp, ri_n_ap, ri_b_ap, ri_x_ap, ri_y_ap, ri_in, ri_B0, ri_B1, ri_nm2, ri_nm1, ri_cx_z, ri_cx_n, ri_cy_n, ri_cy_g, ri_cx_e, ri_cy_e, nI_1, nI_add, ri_mul5, ri_mul5', ri_mul2, ri_mul2', ri_add5, ri_div2, ri_two, ri_01, ri_10, nI_eq, nI_leI, nI_ltI, forall_eq, not_false_eq_true, true_and, and_true, not_true_eq_false, false_implies, implies_true, true_implies, ri_le0, ri_ge0, ri_lt0, ri_gt0, ri_eq0, ri_le1, ri_ge1, ri_lt1, ri_gt1, ri_eq1, ri_le2, ri_ge2, ri_lt2, ri_gt2, ri_eq2, ri_le3, ri_ge3, ri_lt3, ri_gt3, ri_eq3, ri_le4, ri_ge4, ri_lt4, ri_gt4, ri_eq4, ri_le5, ri_ge5, ri_lt5, ri_gt5, ri_eq5, ri_le10, ri_ge10, ri_lt10, ri_gt10, ri_eq10, ri_le12, ri_ge12, ri_lt12, ri_gt12, ri_eq12, ri_le16, ri_ge16, ri_lt16, ri_gt16, ri_eq16, ri_le20, ri_ge20, ri_lt20, ri_gt20, ri_eq20, ri_le32, ri_ge32, ri_lt32, ri_gt32, ri_eq32, ri_le80, ri_ge80, ri_lt80, ri_gt80, ri_eq80]
      grind
    · intro k i hi hf p
      have := SJ i
      have := FO (sj i)
      have := FT (sj i)
      simp only [ri_at, Bool.and_eq_true, Bool.or_eq_true, decide_eq_true_eq] at hf
      simp only [wY_isFast_14]
      simp (disch := omega) only [nI_clamp, ri_n_ap, ri_b_ap, ri_x_ap, ri_y_ap, ri_in, ri_B0, ri_B1, ri_nm2, ri_nm1, ri_cx_z, ri_cx_n, ri_cy_n, ri_cy_g, ri_cx_e, ri_cy_e, nI_1, nI_add, ri_mul5, ri_mul5', ri_mul2, ri_mul2', ri_add5, ri_div2, ri_two, ri_01, ri_10, nI_eq, nI_leI, nI_ltI, forall_eq, not_false_eq_true, true_and, and_true, not_true_eq_false, false_implies, implies_true, true_implies, ri_le0, ri_ge0, ri_lt0, ri_gt0, ri_eq0, ri_le1, ri_ge1, ri_lt1, ri_gt1, ri_eq1, ri_le2, ri_ge2, ri_lt2, ri_gt2, ri_eq2, ri_le3, ri_ge3, ri_lt3, ri_gt3, ri_eq3, ri_le4, ri_ge4, ri_lt4, ri_gt4, ri_eq4, ri_le5, ri_ge5, ri_lt5, ri_gt5, ri_eq5, ri_le10, ri_ge10, ri_lt10, ri_gt10, ri_eq10, ri_le12, ri_ge12, ri_lt12, ri_gt12, ri_eq12, ri_le16, ri_ge16, ri_lt16, ri_gt16, ri_eq16, ri_le20, ri_ge20, ri_lt20, ri_gt20, ri_eq20, ri_le32, ri_ge32, ri_lt32, ri_gt32, ri_eq32, ri_le80, ri_ge80, ri_lt80, ri_gt80, ri_eq80]
      grind
    · intro k i hi hf p
      have := SJ i
      have := FO (sj i)
      have := FT (sj i)
      simp only [ri_at, Bool.and_eq_false_iff, Bool.or_eq_false_iff, decide_eq_false_iff_not] at hf
      simp only [wY_isFast_14]
      simp (disch := omega) only [nI_clamp, ri_n_ap, ri_b_ap, ri_x_ap, ri_y_ap, ri_in, ri_B0, ri_B1, ri_nm2, ri_nm1, ri_cx_z, ri_cx_n, ri_cy_n, ri_cy_g, ri_cx_e, ri_cy_e, nI_1, nI_add, ri_mul5, ri_mul5', ri_mul2, ri_mul2', ri_add5, ri_div2, ri_two, ri_01, ri_10, nI_eq, nI_leI, nI_ltI, forall_eq, not_false_eq_true, true_and, and_true, not_true_eq_false, false_implies, implies_true, true_implies, ri_le0, ri_ge0, ri_lt0, ri_gt0, ri_eq0, ri_le1, ri_ge1, ri_lt1, ri_gt1, ri_eq1, ri_le2, ri_ge2, ri_lt2, ri_gt2, ri_eq2, ri_le3, ri_ge3, ri_lt3, ri_gt3, ri_eq3, ri_le4, ri_ge4, ri_lt4, ri_gt4, ri_eq4, ri_le5, ri_ge5, ri_lt5, ri_gt5, ri_eq5, ri_le10, ri_ge10, ri_lt10, ri_gt10, ri_eq10, ri_le12, ri_ge12, ri_lt12, ri_gt12, ri_eq12, ri_le16, ri_ge16, ri_lt16, ri_gt16, ri_eq16, ri_le20, ri_ge20, ri_lt20, ri_gt20, ri_eq20, ri_le32, ri_ge32, ri_lt32, ri_gt32, ri_eq32, ri_le80, ri_ge80, ri_lt80, ri_gt80, ri_eq80]
      grind
  · rw [Bool.not_eq_false] at z; rw [z] at h; exact h
def ri_sk (fo ft ct ej ps sj : Nat → Nat) (hd : Nat → Bool) (hg : Nat → Nat) (k z : Nat) : Bool :=
  decide (ri_nd ct ej (sj k) (ri_eo fo ft (sj k) z) ≠ 0) && (decide (ri_nd ct ej (sj k) (ri_eo fo ft (sj k) z) ≠ ps (ri_eo fo ft (sj k) z) + 1) && ri_fst fo ft sj hd hg (ri_eo fo ft (sj k) z))
def ri_stuck (fo ft ct ej ps rl sj : Nat → Nat) (hd : Nat → Bool) (hg : Nat → Nat) (r : Nat) : Bool := ri_ba (fun i => ri_ba (ri_sk fo ft ct ej ps sj hd hg (5 * r + i)) 2) (rl r)
theorem ry_skI {post J4 : Int32 → Prop} {r k : Nat} (hk : k < 80) (HJ : ri_J J fo ft ct ej) (HG : ∀ t, hg t ≤ 20) (SJ : ∀ i, sj i < 12) (PS : ∀ a, ps a ≤ 1) (h0 : ri_ba (ri_sk fo ft ct ej ps sj hd hg k) 2 = false → J4 (nI (k + 1))) (h1 : ri_ba (ri_sk fo ft ct ej ps sj hd hg k) 2 = true → post 1) : ∃ n, wY_isStuck_20 post J4 (nI r) (nI k) (nI J) (nI R) (ri_n fo) (ri_n ft) (ri_b sg) (ri_n ps) (ri_n rs) (ri_n rl) (ri_n sj) (ri_n se) (ri_b st) (ri_n wt) (ri_b hd) (ri_x lk) (ri_y hg) (ri_y un) (ri_n dn) rv mt nx n 0 := by
  refine ri_sc (fun n z => wY_isStuck_20 post J4 (nI r) (nI k) (nI J) (nI R) (ri_n fo) (ri_n ft) (ri_b sg) (ri_n ps) (ri_n rs) (ri_n rl) (ri_n sj) (ri_n se) (ri_b st) (ri_n wt) (ri_b hd) (ri_x lk) (ri_y hg) (ri_y un) (ri_n dn) rv mt nx n (nI z)) (J4 (nI (k + 1))) (post 1) _ 2 ?_ ?_ ?_ h0 h1
  · intro n p
    simp only [wY_isStuck_20]
    simp (disch := omega) only [nI_clamp, ri_n_ap, ri_b_ap, ri_x_ap, ri_y_ap, ri_in, ri_B0, ri_B1, ri_nm2, ri_nm1, ri_cx_z, ri_cx_n, ri_cy_n, ri_cy_g, ri_cx_e, ri_cy_e, nI_1, nI_add, ri_mul5, ri_mul5', ri_mul2, ri_mul2', ri_add5, ri_div2, ri_two, ri_01, ri_10, nI_eq, nI_leI, nI_ltI, forall_eq, not_false_eq_true, true_and, and_true, not_true_eq_false, false_implies, implies_true, true_implies, ri_le0, ri_ge0, ri_lt0, ri_gt0, ri_eq0, ri_le1, ri_ge1, ri_lt1, ri_gt1, ri_eq1, ri_le2, ri_ge2, ri_lt2, ri_gt2, ri_eq2, ri_le3, ri_ge3, ri_lt3, ri_gt3, ri_eq3, ri_le4, ri_ge4, ri_lt4, ri_gt4, ri_eq4, ri_le5, ri_ge5, ri_lt5, ri_gt5, ri_eq5, ri_le10, ri_ge10, ri_lt10, ri_gt10, ri_eq10, ri_le12, ri_ge12, ri_lt12, ri_gt12, ri_eq12, ri_le16, ri_ge16, ri_lt16, ri_gt16, ri_eq16, ri_le20, ri_ge20, ri_lt20, ri_gt20, ri_eq20, ri_le32, ri_ge32, ri_lt32, ri_gt32, ri_eq32, ri_le80, ri_ge80, ri_lt80, ri_gt80, ri_eq80]
    grind
  · intro n z hz hf p
    simp only [ri_sk, Bool.and_eq_true, decide_eq_true_eq] at hf
    have := SJ k
    have := PS (ri_eo fo ft (sj k) z)
    have := ri_nd_le (ct := ct) (ej := ej) (j := sj k) (a := ri_eo fo ft (sj k) z)
    have := ri_eo_lt (j := sj k) (z := z) HJ.2.1 HJ.2.2.1
    simp only [wY_isStuck_20]
    simp (disch := omega) only [nI_clamp, ri_n_ap, ri_b_ap, ri_x_ap, ri_y_ap, ri_in, ri_B0, ri_B1, ri_nm2, ri_nm1, ri_cx_z, ri_cx_n, ri_cy_n, ri_cy_g, ri_cx_e, ri_cy_e, nI_1, nI_add, ri_mul5, ri_mul5', ri_mul2, ri_mul2', ri_add5, ri_div2, ri_two, ri_01, ri_10, nI_eq, nI_leI, nI_ltI, forall_eq, not_false_eq_true, true_and, and_true, not_true_eq_false, false_implies, implies_true, true_implies, ri_le0, ri_ge0, ri_lt0, ri_gt0, ri_eq0, ri_le1, ri_ge1, ri_lt1, ri_gt1, ri_eq1, ri_le2, ri_ge2, ri_lt2, ri_gt2, ri_eq2, ri_le3, ri_ge3, ri_lt3, ri_gt3, ri_eq3, ri_le4, ri_ge4, ri_lt4, ri_gt4, ri_eq4, ri_le5, ri_ge5, ri_lt5, ri_gt5, ri_eq5, ri_le10, ri_ge10, ri_lt10, ri_gt10, ri_eq10, ri_le12, ri_ge12, ri_lt12, ri_gt12, ri_eq12, ri_le16, ri_ge16, ri_lt16, ri_gt16, ri_eq16, ri_le20, ri_ge20, ri_lt20, ri_gt20, ri_eq20, ri_le32, ri_ge32, ri_lt32, ri_gt32, ri_eq32, ri_le80, ri_ge80, ri_lt80, ri_gt80, ri_eq80]
    refine br_f (by omega) ⟨by omega, ry_nd (SJ k) (by omega) HJ ⟨by omega, ry_eo (SJ k) (by omega) ?_⟩⟩
    simp (disch := omega) only [nI_clamp, ri_n_ap, ri_b_ap, ri_x_ap, ri_y_ap, ri_in, ri_B0, ri_B1, ri_nm2, ri_nm1, ri_cx_z, ri_cx_n, ri_cy_n, ri_cy_g, ri_cx_e, ri_cy_e, nI_1, nI_add, ri_mul5, ri_mul5', ri_mul2, ri_mul2', ri_add5, ri_div2, ri_two, ri_01, ri_10, nI_eq, nI_leI, nI_ltI, forall_eq, not_false_eq_true, true_and, and_true, not_true_eq_false, false_implies, implies_true, true_implies, ri_le0, ri_ge0, ri_lt0, ri_gt0, ri_eq0, ri_le1, ri_ge1, ri_lt1, ri_gt1, ri_eq1, ri_le2, ri_ge2, ri_lt2, ri_gt2, ri_eq2, ri_le3, ri_ge3, ri_lt3, ri_gt3, ri_eq3, ri_le4, ri_ge4, ri_lt4, ri_gt4, ri_eq4, ri_le5, ri_ge5, ri_lt5, ri_gt5, ri_eq5, ri_le10, ri_ge10, ri_lt10, ri_gt10, ri_eq10, ri_le12, ri_ge12, ri_lt12, ri_gt12, ri_eq12, ri_le16, ri_ge16, ri_lt16, ri_gt16, ri_eq16, ri_le20, ri_ge20, ri_lt20, ri_gt20, ri_eq20, ri_le32, ri_ge32, ri_lt32, ri_gt32, ri_eq32, ri_le80, ri_ge80, ri_lt80, ri_gt80, ri_eq80]
    simp (disch := omega) only [ri_cy_e']
    refine br_f hf.1 ⟨by omega, br_f hf.2.1 (ry_fst (by omega) HG SJ HJ.2.1 HJ.2.2.1 ?_)⟩
    simp (disch := omega) only [nI_clamp, ri_n_ap, ri_b_ap, ri_x_ap, ri_y_ap, ri_in, ri_B0, ri_B1, ri_nm2, ri_nm1, ri_cx_z, ri_cx_n, ri_cy_n, ri_cy_g, ri_cx_e, ri_cy_e, nI_1, nI_add, ri_mul5, ri_mul5', ri_mul2, ri_mul2', ri_add5, ri_div2, ri_two, ri_01, ri_10, nI_eq, nI_leI, nI_ltI, forall_eq, not_false_eq_true, true_and, and_true, not_true_eq_false, false_implies, implies_true, true_implies, ri_le0, ri_ge0, ri_lt0, ri_gt0, ri_eq0, ri_le1, ri_ge1, ri_lt1, ri_gt1, ri_eq1, ri_le2, ri_ge2, ri_lt2, ri_gt2, ri_eq2, ri_le3, ri_ge3, ri_lt3, ri_gt3, ri_eq3, ri_le4, ri_ge4, ri_lt4, ri_gt4, ri_eq4, ri_le5, ri_ge5, ri_lt5, ri_gt5, ri_eq5, ri_le10, ri_ge10, ri_lt10, ri_gt10, ri_eq10, ri_le12, ri_ge12, ri_lt12, ri_gt12, ri_eq12, ri_le16, ri_ge16, ri_lt16, ri_gt16, ri_eq16, ri_le20, ri_ge20, ri_lt20, ri_gt20, ri_eq20, ri_le32, ri_ge32, ri_lt32, ri_gt32, ri_eq32, ri_le80, ri_ge80, ri_lt80, ri_gt80, ri_eq80]
    exact br_f (by rw [hf.2.2]; decide) p
  · intro n z hz hf p
    have := SJ k
    have := PS (ri_eo fo ft (sj k) z)
    have := ri_nd_le (ct := ct) (ej := ej) (j := sj k) (a := ri_eo fo ft (sj k) z)
    have := ri_eo_lt (j := sj k) (z := z) HJ.2.1 HJ.2.2.1
    simp only [wY_isStuck_20]
    simp (disch := omega) only [nI_clamp, ri_n_ap, ri_b_ap, ri_x_ap, ri_y_ap, ri_in, ri_B0, ri_B1, ri_nm2, ri_nm1, ri_cx_z, ri_cx_n, ri_cy_n, ri_cy_g, ri_cx_e, ri_cy_e, nI_1, nI_add, ri_mul5, ri_mul5', ri_mul2, ri_mul2', ri_add5, ri_div2, ri_two, ri_01, ri_10, nI_eq, nI_leI, nI_ltI, forall_eq, not_false_eq_true, true_and, and_true, not_true_eq_false, false_implies, implies_true, true_implies, ri_le0, ri_ge0, ri_lt0, ri_gt0, ri_eq0, ri_le1, ri_ge1, ri_lt1, ri_gt1, ri_eq1, ri_le2, ri_ge2, ri_lt2, ri_gt2, ri_eq2, ri_le3, ri_ge3, ri_lt3, ri_gt3, ri_eq3, ri_le4, ri_ge4, ri_lt4, ri_gt4, ri_eq4, ri_le5, ri_ge5, ri_lt5, ri_gt5, ri_eq5, ri_le10, ri_ge10, ri_lt10, ri_gt10, ri_eq10, ri_le12, ri_ge12, ri_lt12, ri_gt12, ri_eq12, ri_le16, ri_ge16, ri_lt16, ri_gt16, ri_eq16, ri_le20, ri_ge20, ri_lt20, ri_gt20, ri_eq20, ri_le32, ri_ge32, ri_lt32, ri_gt32, ri_eq32, ri_le80, ri_ge80, ri_lt80, ri_gt80, ri_eq80]
    refine br_f (by omega) ⟨by omega, ry_nd (SJ k) (by omega) HJ ⟨by omega, ry_eo (SJ k) (by omega) ?_⟩⟩
    simp (disch := omega) only [nI_clamp, ri_n_ap, ri_b_ap, ri_x_ap, ri_y_ap, ri_in, ri_B0, ri_B1, ri_nm2, ri_nm1, ri_cx_z, ri_cx_n, ri_cy_n, ri_cy_g, ri_cx_e, ri_cy_e, nI_1, nI_add, ri_mul5, ri_mul5', ri_mul2, ri_mul2', ri_add5, ri_div2, ri_two, ri_01, ri_10, nI_eq, nI_leI, nI_ltI, forall_eq, not_false_eq_true, true_and, and_true, not_true_eq_false, false_implies, implies_true, true_implies, ri_le0, ri_ge0, ri_lt0, ri_gt0, ri_eq0, ri_le1, ri_ge1, ri_lt1, ri_gt1, ri_eq1, ri_le2, ri_ge2, ri_lt2, ri_gt2, ri_eq2, ri_le3, ri_ge3, ri_lt3, ri_gt3, ri_eq3, ri_le4, ri_ge4, ri_lt4, ri_gt4, ri_eq4, ri_le5, ri_ge5, ri_lt5, ri_gt5, ri_eq5, ri_le10, ri_ge10, ri_lt10, ri_gt10, ri_eq10, ri_le12, ri_ge12, ri_lt12, ri_gt12, ri_eq12, ri_le16, ri_ge16, ri_lt16, ri_gt16, ri_eq16, ri_le20, ri_ge20, ri_lt20, ri_gt20, ri_eq20, ri_le32, ri_ge32, ri_lt32, ri_gt32, ri_eq32, ri_le80, ri_ge80, ri_lt80, ri_gt80, ri_eq80]
    simp (disch := omega) only [ri_cy_e']
    refine br_c (fun _ => p) (fun y1 => ⟨by omega, br_c (fun _ => p) (fun y2 => ry_fst (by omega) HG SJ HJ.2.1 HJ.2.2.1 ?_)⟩)
    simp (disch := omega) only [nI_clamp, ri_n_ap, ri_b_ap, ri_x_ap, ri_y_ap, ri_in, ri_B0, ri_B1, ri_nm2, ri_nm1, ri_cx_z, ri_cx_n, ri_cy_n, ri_cy_g, ri_cx_e, ri_cy_e, nI_1, nI_add, ri_mul5, ri_mul5', ri_mul2, ri_mul2', ri_add5, ri_div2, ri_two, ri_01, ri_10, nI_eq, nI_leI, nI_ltI, forall_eq, not_false_eq_true, true_and, and_true, not_true_eq_false, false_implies, implies_true, true_implies, ri_le0, ri_ge0, ri_lt0, ri_gt0, ri_eq0, ri_le1, ri_ge1, ri_lt1, ri_gt1, ri_eq1, ri_le2, ri_ge2, ri_lt2, ri_gt2, ri_eq2, ri_le3, ri_ge3, ri_lt3, ri_gt3, ri_eq3, ri_le4, ri_ge4, ri_lt4, ri_gt4, ri_eq4, ri_le5, ri_ge5, ri_lt5, ri_gt5, ri_eq5, ri_le10, ri_ge10, ri_lt10, ri_gt10, ri_eq10, ri_le12, ri_ge12, ri_lt12, ri_gt12, ri_eq12, ri_le16, ri_ge16, ri_lt16, ri_gt16, ri_eq16, ri_le20, ri_ge20, ri_lt20, ri_gt20, ri_eq20, ri_le32, ri_ge32, ri_lt32, ri_gt32, ri_eq32, ri_le80, ri_ge80, ri_lt80, ri_gt80, ri_eq80]
    refine br_c (fun _ => p) (fun y3 => ?_)
    rw [Bool.not_eq_false] at y3
    simp [ri_sk, y1, y2, y3] at hf
theorem ry_stuck {post : Int32 → Prop} {r : Nat} (hr : r < 16) (HJ : ri_J J fo ft ct ej) (HG : ∀ t, hg t ≤ 20) (RL : ∀ r, rl r ≤ 5) (SJ : ∀ i, sj i < 12) (PS : ∀ a, ps a ≤ 1) (h : post (ri_B (ri_stuck fo ft ct ej ps rl sj hd hg r))) : wpY_isStuck post (sY J R fo ft sg ps rs rl sj se st wt hd lk hg un dn rv mt nx) (nI r) := by
  have hl := RL r
  simp only [wpY_isStuck]
  refine nm_r (ri_mul5' r) ?_
  refine ri_scB (fun n i => wY_isStuck_4 post (nI r) (nI J) (nI R) (ri_n fo) (ri_n ft) (ri_b sg) (ri_n ps) (ri_n rs) (ri_n rl) (ri_n sj) (ri_n se) (ri_b st) (ri_n wt) (ri_b hd) (ri_x lk) (ri_y hg) (ri_y un) (ri_n dn) rv mt nx n (nI (5 * r + i))) post _ (rl r) h ?_ ?_ ?_
  · intro k p
    simp only [wY_isStuck_4]
    simp (disch := omega) only [nI_clamp, ri_n_ap, ri_b_ap, ri_x_ap, ri_y_ap, ri_in, ri_B0, ri_B1, ri_nm2, ri_nm1, ri_cx_z, ri_cx_n, ri_cy_n, ri_cy_g, ri_cx_e, ri_cy_e, nI_1, nI_add, ri_mul5, ri_mul5', ri_mul2, ri_mul2', ri_add5, ri_div2, ri_two, ri_01, ri_10, nI_eq, nI_leI, nI_ltI, forall_eq, not_false_eq_true, true_and, and_true, not_true_eq_false, false_implies, implies_true, true_implies, ri_le0, ri_ge0, ri_lt0, ri_gt0, ri_eq0, ri_le1, ri_ge1, ri_lt1, ri_gt1, ri_eq1, ri_le2, ri_ge2, ri_lt2, ri_gt2, ri_eq2, ri_le3, ri_ge3, ri_lt3, ri_gt3, ri_eq3, ri_le4, ri_ge4, ri_lt4, ri_gt4, ri_eq4, ri_le5, ri_ge5, ri_lt5, ri_gt5, ri_eq5, ri_le10, ri_ge10, ri_lt10, ri_gt10, ri_eq10, ri_le12, ri_ge12, ri_lt12, ri_gt12, ri_eq12, ri_le16, ri_ge16, ri_lt16, ri_gt16, ri_eq16, ri_le20, ri_ge20, ri_lt20, ri_gt20, ri_eq20, ri_le32, ri_ge32, ri_lt32, ri_gt32, ri_eq32, ri_le80, ri_ge80, ri_lt80, ri_gt80, ri_eq80]
    grind
  · intro k i hi hf p
    simp only [wY_isStuck_4]
    simp (disch := omega) only [nI_clamp, ri_n_ap, ri_b_ap, ri_x_ap, ri_y_ap, ri_in, ri_B0, ri_B1, ri_nm2, ri_nm1, ri_cx_z, ri_cx_n, ri_cy_n, ri_cy_g, ri_cx_e, ri_cy_e, nI_1, nI_add, ri_mul5, ri_mul5', ri_mul2, ri_mul2', ri_add5, ri_div2, ri_two, ri_01, ri_10, nI_eq, nI_leI, nI_ltI, forall_eq, not_false_eq_true, true_and, and_true, not_true_eq_false, false_implies, implies_true, true_implies, ri_le0, ri_ge0, ri_lt0, ri_gt0, ri_eq0, ri_le1, ri_ge1, ri_lt1, ri_gt1, ri_eq1, ri_le2, ri_ge2, ri_lt2, ri_gt2, ri_eq2, ri_le3, ri_ge3, ri_lt3, ri_gt3, ri_eq3, ri_le4, ri_ge4, ri_lt4, ri_gt4, ri_eq4, ri_le5, ri_ge5, ri_lt5, ri_gt5, ri_eq5, ri_le10, ri_ge10, ri_lt10, ri_gt10, ri_eq10, ri_le12, ri_ge12, ri_lt12, ri_gt12, ri_eq12, ri_le16, ri_ge16, ri_lt16, ri_gt16, ri_eq16, ri_le20, ri_ge20, ri_lt20, ri_gt20, ri_eq20, ri_le32, ri_ge32, ri_lt32, ri_gt32, ri_eq32, ri_le80, ri_ge80, ri_lt80, ri_gt80, ri_eq80]
    exact ⟨by omega, br_f (by omega) (ry_skI (by omega) HJ HG SJ PS (fun e => by rw [hf] at e; exact absurd e (by decide)) (fun _ => p))⟩
  · intro k i hi hf p
    simp only [wY_isStuck_4]
    simp (disch := omega) only [nI_clamp, ri_n_ap, ri_b_ap, ri_x_ap, ri_y_ap, ri_in, ri_B0, ri_B1, ri_nm2, ri_nm1, ri_cx_z, ri_cx_n, ri_cy_n, ri_cy_g, ri_cx_e, ri_cy_e, nI_1, nI_add, ri_mul5, ri_mul5', ri_mul2, ri_mul2', ri_add5, ri_div2, ri_two, ri_01, ri_10, nI_eq, nI_leI, nI_ltI, forall_eq, not_false_eq_true, true_and, and_true, not_true_eq_false, false_implies, implies_true, true_implies, ri_le0, ri_ge0, ri_lt0, ri_gt0, ri_eq0, ri_le1, ri_ge1, ri_lt1, ri_gt1, ri_eq1, ri_le2, ri_ge2, ri_lt2, ri_gt2, ri_eq2, ri_le3, ri_ge3, ri_lt3, ri_gt3, ri_eq3, ri_le4, ri_ge4, ri_lt4, ri_gt4, ri_eq4, ri_le5, ri_ge5, ri_lt5, ri_gt5, ri_eq5, ri_le10, ri_ge10, ri_lt10, ri_gt10, ri_eq10, ri_le12, ri_ge12, ri_lt12, ri_gt12, ri_eq12, ri_le16, ri_ge16, ri_lt16, ri_gt16, ri_eq16, ri_le20, ri_ge20, ri_lt20, ri_gt20, ri_eq20, ri_le32, ri_ge32, ri_lt32, ri_gt32, ri_eq32, ri_le80, ri_ge80, ri_lt80, ri_gt80, ri_eq80]
    exact ⟨by omega, br_f (by omega) (ry_skI (by omega) HJ HG SJ PS (fun _ => p) (fun e => by rw [hf] at e; exact absurd e (by decide)))⟩
theorem ry_blk {post : Int32 → Prop} {r : Nat} (hr : r < R) (hR : R ≤ 16) (HJ : ri_J J fo ft ct ej) (HG : ∀ t, hg t ≤ 20) (LK : ∀ s, lk s ≤ 16) (RL : ∀ r, rl r ≤ 5) (SJ : ∀ i, sj i < 12) (SE : ∀ i, se i < 20) (PS : ∀ a, ps a ≤ 1) (h : post (nI (ri_obs (ri_eocc hg rl se r) (ri_elck lk rl se r) (ri_stuck fo ft ct ej ps rl sj hd hg r) (st r)))) : wpY_blocked post (sY J R fo ft sg ps rs rl sj se st wt hd lk hg un dn rv mt nx) (nI r) := by
  have hl := RL r
  simp only [wpY_blocked]
  refine ry_isR1 hR hr ?_
  simp (disch := omega) only [nI_clamp, ri_n_ap, ri_b_ap, ri_x_ap, ri_y_ap, ri_in, ri_B0, ri_B1, ri_nm2, ri_nm1, ri_cx_z, ri_cx_n, ri_cy_n, ri_cy_g, ri_cx_e, ri_cy_e, nI_1, nI_add, ri_mul5, ri_mul5', ri_mul2, ri_mul2', ri_add5, ri_div2, ri_two, ri_01, ri_10, nI_eq, nI_leI, nI_ltI, forall_eq, not_false_eq_true, true_and, and_true, not_true_eq_false, false_implies, implies_true, true_implies, ri_le0, ri_ge0, ri_lt0, ri_gt0, ri_eq0, ri_le1, ri_ge1, ri_lt1, ri_gt1, ri_eq1, ri_le2, ri_ge2, ri_lt2, ri_gt2, ri_eq2, ri_le3, ri_ge3, ri_lt3, ri_gt3, ri_eq3, ri_le4, ri_ge4, ri_lt4, ri_gt4, ri_eq4, ri_le5, ri_ge5, ri_lt5, ri_gt5, ri_eq5, ri_le10, ri_ge10, ri_lt10, ri_gt10, ri_eq10, ri_le12, ri_ge12, ri_lt12, ri_gt12, ri_eq12, ri_le16, ri_ge16, ri_lt16, ri_gt16, ri_eq16, ri_le20, ri_ge20, ri_lt20, ri_gt20, ri_eq20, ri_le32, ri_ge32, ri_lt32, ri_gt32, ri_eq32, ri_le80, ri_ge80, ri_lt80, ri_gt80, ri_eq80]
  refine ⟨by omega, br_c (fun z => ?_) (fun z => ?_)⟩
  · rw [z] at h
    refine ri_sc (fun n i => wY_blocked_27 post (nI r) (nI J) (nI R) (ri_n fo) (ri_n ft) (ri_b sg) (ri_n ps) (ri_n rs) (ri_n rl) (ri_n sj) (ri_n se) (ri_b st) (ri_n wt) (ri_b hd) (ri_x lk) (ri_y hg) (ri_y un) (ri_n dn) rv mt nx n (ri_B (ri_ba (fun i => decide (lk (se (5 * r + i) / 2) ≠ 0)) i)) (nI (5 * r + i))) (ri_eocc hg rl se r = false) (post 2) (fun i => ri_occ hg (se (5 * r + i) / 2)) (rl r) ?_ ?_ ?_ id (fun e => ?_)
    · intro k p
      rw [p] at h
      simp only [wY_blocked_27]
      simp (disch := omega) only [nI_clamp, ri_n_ap, ri_b_ap, ri_x_ap, ri_y_ap, ri_in, ri_B0, ri_B1, ri_nm2, ri_nm1, ri_cx_z, ri_cx_n, ri_cy_n, ri_cy_g, ri_cx_e, ri_cy_e, nI_1, nI_add, ri_mul5, ri_mul5', ri_mul2, ri_mul2', ri_add5, ri_div2, ri_two, ri_01, ri_10, nI_eq, nI_leI, nI_ltI, forall_eq, not_false_eq_true, true_and, and_true, not_true_eq_false, false_implies, implies_true, true_implies, ri_le0, ri_ge0, ri_lt0, ri_gt0, ri_eq0, ri_le1, ri_ge1, ri_lt1, ri_gt1, ri_eq1, ri_le2, ri_ge2, ri_lt2, ri_gt2, ri_eq2, ri_le3, ri_ge3, ri_lt3, ri_gt3, ri_eq3, ri_le4, ri_ge4, ri_lt4, ri_gt4, ri_eq4, ri_le5, ri_ge5, ri_lt5, ri_gt5, ri_eq5, ri_le10, ri_ge10, ri_lt10, ri_gt10, ri_eq10, ri_le12, ri_ge12, ri_lt12, ri_gt12, ri_eq12, ri_le16, ri_ge16, ri_lt16, ri_gt16, ri_eq16, ri_le20, ri_ge20, ri_lt20, ri_gt20, ri_eq20, ri_le32, ri_ge32, ri_lt32, ri_gt32, ri_eq32, ri_le80, ri_ge80, ri_lt80, ri_gt80, ri_eq80]
      refine ⟨by omega, br_t (Nat.le_refl _) (br_c (fun y => ?_) (fun y => ?_))⟩
      · refine ry_stuck (by omega) HJ HG RL SJ PS ?_
        simp (disch := omega) only [nI_clamp, ri_n_ap, ri_b_ap, ri_x_ap, ri_y_ap, ri_in, ri_B0, ri_B1, ri_nm2, ri_nm1, ri_cx_z, ri_cx_n, ri_cy_n, ri_cy_g, ri_cx_e, ri_cy_e, nI_1, nI_add, ri_mul5, ri_mul5', ri_mul2, ri_mul2', ri_add5, ri_div2, ri_two, ri_01, ri_10, nI_eq, nI_leI, nI_ltI, forall_eq, not_false_eq_true, true_and, and_true, not_true_eq_false, false_implies, implies_true, true_implies, ri_le0, ri_ge0, ri_lt0, ri_gt0, ri_eq0, ri_le1, ri_ge1, ri_lt1, ri_gt1, ri_eq1, ri_le2, ri_ge2, ri_lt2, ri_gt2, ri_eq2, ri_le3, ri_ge3, ri_lt3, ri_gt3, ri_eq3, ri_le4, ri_ge4, ri_lt4, ri_gt4, ri_eq4, ri_le5, ri_ge5, ri_lt5, ri_gt5, ri_eq5, ri_le10, ri_ge10, ri_lt10, ri_gt10, ri_eq10, ri_le12, ri_ge12, ri_lt12, ri_gt12, ri_eq12, ri_le16, ri_ge16, ri_lt16, ri_gt16, ri_eq16, ri_le20, ri_ge20, ri_lt20, ri_gt20, ri_eq20, ri_le32, ri_ge32, ri_lt32, ri_gt32, ri_eq32, ri_le80, ri_ge80, ri_lt80, ri_gt80, ri_eq80]
        rw [show ri_elck lk rl se r = false from y] at h
        refine br_c (fun w => ?_) (fun w => ?_)
        · rw [w] at h; exact h
        · rw [Bool.not_eq_false] at w; rw [w] at h; exact h
      · rw [Bool.not_eq_false] at y
        rw [show ri_elck lk rl se r = true from y] at h
        exact h
    · intro k i hi hf p
      have := SE (5 * r + i)
      simp only [wY_blocked_27]
      simp (disch := omega) only [nI_clamp, ri_n_ap, ri_b_ap, ri_x_ap, ri_y_ap, ri_in, ri_B0, ri_B1, ri_nm2, ri_nm1, ri_cx_z, ri_cx_n, ri_cy_n, ri_cy_g, ri_cx_e, ri_cy_e, nI_1, nI_add, ri_mul5, ri_mul5', ri_mul2, ri_mul2', ri_add5, ri_div2, ri_two, ri_01, ri_10, nI_eq, nI_leI, nI_ltI, forall_eq, not_false_eq_true, true_and, and_true, not_true_eq_false, false_implies, implies_true, true_implies, ri_le0, ri_ge0, ri_lt0, ri_gt0, ri_eq0, ri_le1, ri_ge1, ri_lt1, ri_gt1, ri_eq1, ri_le2, ri_ge2, ri_lt2, ri_gt2, ri_eq2, ri_le3, ri_ge3, ri_lt3, ri_gt3, ri_eq3, ri_le4, ri_ge4, ri_lt4, ri_gt4, ri_eq4, ri_le5, ri_ge5, ri_lt5, ri_gt5, ri_eq5, ri_le10, ri_ge10, ri_lt10, ri_gt10, ri_eq10, ri_le12, ri_ge12, ri_lt12, ri_gt12, ri_eq12, ri_le16, ri_ge16, ri_lt16, ri_gt16, ri_eq16, ri_le20, ri_ge20, ri_lt20, ri_gt20, ri_eq20, ri_le32, ri_ge32, ri_lt32, ri_gt32, ri_eq32, ri_le80, ri_ge80, ri_lt80, ri_gt80, ri_eq80]
      refine ⟨by omega, br_f (by omega) ⟨by omega, ry_occ (by omega) HG ?_⟩⟩
      simp (disch := omega) only [nI_clamp, ri_n_ap, ri_b_ap, ri_x_ap, ri_y_ap, ri_in, ri_B0, ri_B1, ri_nm2, ri_nm1, ri_cx_z, ri_cx_n, ri_cy_n, ri_cy_g, ri_cx_e, ri_cy_e, nI_1, nI_add, ri_mul5, ri_mul5', ri_mul2, ri_mul2', ri_add5, ri_div2, ri_two, ri_01, ri_10, nI_eq, nI_leI, nI_ltI, forall_eq, not_false_eq_true, true_and, and_true, not_true_eq_false, false_implies, implies_true, true_implies, ri_le0, ri_ge0, ri_lt0, ri_gt0, ri_eq0, ri_le1, ri_ge1, ri_lt1, ri_gt1, ri_eq1, ri_le2, ri_ge2, ri_lt2, ri_gt2, ri_eq2, ri_le3, ri_ge3, ri_lt3, ri_gt3, ri_eq3, ri_le4, ri_ge4, ri_lt4, ri_gt4, ri_eq4, ri_le5, ri_ge5, ri_lt5, ri_gt5, ri_eq5, ri_le10, ri_ge10, ri_lt10, ri_gt10, ri_eq10, ri_le12, ri_ge12, ri_lt12, ri_gt12, ri_eq12, ri_le16, ri_ge16, ri_lt16, ri_gt16, ri_eq16, ri_le20, ri_ge20, ri_lt20, ri_gt20, ri_eq20, ri_le32, ri_ge32, ri_lt32, ri_gt32, ri_eq32, ri_le80, ri_ge80, ri_lt80, ri_gt80, ri_eq80]
      exact br_f (by rw [hf]; decide) p
    · intro k i hi hf p
      have := SE (5 * r + i)
      have := LK (se (5 * r + i) / 2)
      simp only [wY_blocked_27]
      simp (disch := omega) only [nI_clamp, ri_n_ap, ri_b_ap, ri_x_ap, ri_y_ap, ri_in, ri_B0, ri_B1, ri_nm2, ri_nm1, ri_cx_z, ri_cx_n, ri_cy_n, ri_cy_g, ri_cx_e, ri_cy_e, nI_1, nI_add, ri_mul5, ri_mul5', ri_mul2, ri_mul2', ri_add5, ri_div2, ri_two, ri_01, ri_10, nI_eq, nI_leI, nI_ltI, forall_eq, not_false_eq_true, true_and, and_true, not_true_eq_false, false_implies, implies_true, true_implies, ri_le0, ri_ge0, ri_lt0, ri_gt0, ri_eq0, ri_le1, ri_ge1, ri_lt1, ri_gt1, ri_eq1, ri_le2, ri_ge2, ri_lt2, ri_gt2, ri_eq2, ri_le3, ri_ge3, ri_lt3, ri_gt3, ri_eq3, ri_le4, ri_ge4, ri_lt4, ri_gt4, ri_eq4, ri_le5, ri_ge5, ri_lt5, ri_gt5, ri_eq5, ri_le10, ri_ge10, ri_lt10, ri_gt10, ri_eq10, ri_le12, ri_ge12, ri_lt12, ri_gt12, ri_eq12, ri_le16, ri_ge16, ri_lt16, ri_gt16, ri_eq16, ri_le20, ri_ge20, ri_lt20, ri_gt20, ri_eq20, ri_le32, ri_ge32, ri_lt32, ri_gt32, ri_eq32, ri_le80, ri_ge80, ri_lt80, ri_gt80, ri_eq80]
      refine ⟨by omega, br_f (by omega) ⟨by omega, ry_occ (by omega) HG ?_⟩⟩
      simp (disch := omega) only [nI_clamp, ri_n_ap, ri_b_ap, ri_x_ap, ri_y_ap, ri_in, ri_B0, ri_B1, ri_nm2, ri_nm1, ri_cx_z, ri_cx_n, ri_cy_n, ri_cy_g, ri_cx_e, ri_cy_e, nI_1, nI_add, ri_mul5, ri_mul5', ri_mul2, ri_mul2', ri_add5, ri_div2, ri_two, ri_01, ri_10, nI_eq, nI_leI, nI_ltI, forall_eq, not_false_eq_true, true_and, and_true, not_true_eq_false, false_implies, implies_true, true_implies, ri_le0, ri_ge0, ri_lt0, ri_gt0, ri_eq0, ri_le1, ri_ge1, ri_lt1, ri_gt1, ri_eq1, ri_le2, ri_ge2, ri_lt2, ri_gt2, ri_eq2, ri_le3, ri_ge3, ri_lt3, ri_gt3, ri_eq3, ri_le4, ri_ge4, ri_lt4, ri_gt4, ri_eq4, ri_le5, ri_ge5, ri_lt5, ri_gt5, ri_eq5, ri_le10, ri_ge10, ri_lt10, ri_gt10, ri_eq10, ri_le12, ri_ge12, ri_lt12, ri_gt12, ri_eq12, ri_le16, ri_ge16, ri_lt16, ri_gt16, ri_eq16, ri_le20, ri_ge20, ri_lt20, ri_gt20, ri_eq20, ri_le32, ri_ge32, ri_lt32, ri_gt32, ri_eq32, ri_le80, ri_ge80, ri_lt80, ri_gt80, ri_eq80]
      refine br_t hf ⟨by omega, by omega, br_c (fun y => ?_) (fun y => ?_)⟩
      · rw [ri_ba] at p
        simp only [y, ne_eq, not_true_eq_false, decide_false, Bool.or_false] at p
        exact p
      · rw [ri_ba] at p
        simp only [y, ne_eq, not_false_eq_true, decide_true, Bool.or_true] at p
        exact p
    · rw [show ri_eocc hg rl se r = true from e] at h
      exact h
  · rw [Bool.not_eq_false] at z; rw [z] at h; exact h
end
end
section
section
variable {J R : Nat} {fo ft ct ej ps : Nat → Nat} {sg : Nat → Bool} {rs rl sj se : Nat → Nat} {cb : Nat → Int32} {st : Nat → Bool} {wt : Nat → Nat} {hd : Nat → Bool} {lk hg un dn : Nat → Nat} {rv mt nx : Nat → Int32}
def ri_br (fo ft : Nat → Nat) (j i : Nat) : Bool := decide (j ≠ i) && (decide (fo j = fo i) || (decide (fo j = ft i) || (decide (ft j = fo i) || decide (ft j = ft i))))
def ri_cf1 (fo ft sj se : Nat → Nat) (x y : Nat) : Bool := decide (se x / 2 = se y / 2) || ri_br fo ft (sj x) (sj y)
def ri_cf (fo ft rl sj se : Nat → Nat) (r q : Nat) : Bool := ri_ba (fun i => ri_ba (fun k => ri_cf1 fo ft sj se (5 * r + i) (5 * q + k)) (rl q)) (rl r)
theorem rx_br {post : Int32 → Prop} {j i : Nat} (hj : j < 12) (hi : i < 12) (FO : ∀ j, fo j < 20) (FT : ∀ j, ft j < 20) (h : post (ri_B (ri_br fo ft j i))) : wpX_branchApart post (sX J R fo ft ct ej ps sg rs rl sj se cb st wt hd lk hg un dn) (nI j) (nI i) := by
  have := FO j
  have := FO i
  have := FT j
  have := FT i
  simp only [wpX_branchApart]
  simp (disch := omega) only [nI_clamp, ri_n_ap, ri_b_ap, ri_x_ap, ri_y_ap, ri_in, ri_B0, ri_B1, ri_nm2, ri_nm1, ri_cx_z, ri_cx_n, ri_cy_n, ri_cy_g, ri_cx_e, ri_cy_e, nI_1, nI_add, ri_mul5, ri_mul5', ri_mul2, ri_mul2', ri_add5, ri_div2, ri_two, ri_01, ri_10, nI_eq, nI_leI, nI_ltI, forall_eq, not_false_eq_true, true_and, and_true, not_true_eq_false, false_implies, implies_true, true_implies, ri_le0, ri_ge0, ri_lt0, ri_gt0, ri_eq0, ri_le1, ri_ge1, ri_lt1, ri_gt1, ri_eq1, ri_le2, ri_ge2, ri_lt2, ri_gt2, ri_eq2, ri_le3, ri_ge3, ri_lt3, ri_gt3, ri_eq3, ri_le4, ri_ge4, ri_lt4, ri_gt4, ri_eq4, ri_le5, ri_ge5, ri_lt5, ri_gt5, ri_eq5, ri_le10, ri_ge10, ri_lt10, ri_gt10, ri_eq10, ri_le12, ri_ge12, ri_lt12, ri_gt12, ri_eq12, ri_le16, ri_ge16, ri_lt16, ri_gt16, ri_eq16, ri_le20, ri_ge20, ri_lt20, ri_gt20, ri_eq20, ri_le32, ri_ge32, ri_lt32, ri_gt32, ri_eq32, ri_le80, ri_ge80, ri_lt80, ri_gt80, ri_eq80]
  by_cases z0 : j = i
  · subst z0
    simp only [ri_br, ne_eq, not_true_eq_false, decide_false, Bool.false_and] at h
    exact br_t rfl h
  · refine br_f z0 ?_
    simp only [ri_br, ne_eq, z0, not_false_eq_true, decide_true, Bool.true_and] at h
    by_cases z1 : fo j = fo i
    · simp only [z1, decide_true, Bool.true_or] at h; exact ⟨hj, hi, br_t z1 h⟩
    · simp only [z1, decide_false, Bool.false_or] at h
      by_cases z2 : fo j = ft i
      · simp only [z2, decide_true, Bool.true_or] at h; exact ⟨hj, hi, br_f z1 ⟨hj, hi, br_t z2 h⟩⟩
      · simp only [z2, decide_false, Bool.false_or] at h
        by_cases z3 : ft j = fo i
        · simp only [z3, decide_true, Bool.true_or] at h; exact ⟨hj, hi, br_f z1 ⟨hj, hi, br_f z2 ⟨hj, hi, br_t z3 h⟩⟩⟩
        · simp only [z3, decide_false, Bool.false_or] at h
          by_cases z4 : ft j = ft i
          · simp only [z4, decide_true] at h; exact ⟨hj, hi, br_f z1 ⟨hj, hi, br_f z2 ⟨hj, hi, br_f z3 ⟨hj, hi, br_t z4 h⟩⟩⟩⟩
          · simp only [z4, decide_false] at h; exact ⟨hj, hi, br_f z1 ⟨hj, hi, br_f z2 ⟨hj, hi, br_f z3 ⟨hj, hi, br_f z4 h⟩⟩⟩⟩
theorem rx_cfI {post J2 : Int32 → Prop} {r q i : Nat} (hr : r < 16) (hq : q < 16) (hi : i < 5) (RL : ∀ r, rl r ≤ 5) (SJ : ∀ i, sj i < 12) (SE : ∀ i, se i < 20) (FO : ∀ j, fo j < 20) (FT : ∀ j, ft j < 20) (h0 : ri_ba (fun k => ri_cf1 fo ft sj se (5 * r + i) (5 * q + k)) (rl q) = false → J2 (nI (i + 1))) (h1 : ri_ba (fun k => ri_cf1 fo ft sj se (5 * r + i) (5 * q + k)) (rl q) = true → post 1) : ∃ n, wX_areInConflict_15 post J2 (nI r) (nI q) (nI i) (nI J) (nI R) (ri_n fo) (ri_n ft) (ri_n ct) (ri_n ej) (ri_n ps) (ri_b sg) (ri_n rs) (ri_n rl) (ri_n sj) (ri_n se) cb (ri_b st) (ri_n wt) (ri_b hd) (ri_x lk) (ri_x hg) (ri_x un) (ri_n dn) n 0 := by
  have hl := RL q
  have := SE (5 * r + i)
  refine ri_sc (fun n k => wX_areInConflict_15 post J2 (nI r) (nI q) (nI i) (nI J) (nI R) (ri_n fo) (ri_n ft) (ri_n ct) (ri_n ej) (ri_n ps) (ri_b sg) (ri_n rs) (ri_n rl) (ri_n sj) (ri_n se) cb (ri_b st) (ri_n wt) (ri_b hd) (ri_x lk) (ri_x hg) (ri_x un) (ri_n dn) n (nI k)) (J2 (nI (i + 1))) (post 1) _ (rl q) ?_ ?_ ?_ h0 h1
  · intro n p
    simp only [wX_areInConflict_15]
    simp (disch := omega) only [nI_clamp, ri_n_ap, ri_b_ap, ri_x_ap, ri_y_ap, ri_in, ri_B0, ri_B1, ri_nm2, ri_nm1, ri_cx_z, ri_cx_n, ri_cy_n, ri_cy_g, ri_cx_e, ri_cy_e, nI_1, nI_add, ri_mul5, ri_mul5', ri_mul2, ri_mul2', ri_add5, ri_div2, ri_two, ri_01, ri_10, nI_eq, nI_leI, nI_ltI, forall_eq, not_false_eq_true, true_and, and_true, not_true_eq_false, false_implies, implies_true, true_implies, ri_le0, ri_ge0, ri_lt0, ri_gt0, ri_eq0, ri_le1, ri_ge1, ri_lt1, ri_gt1, ri_eq1, ri_le2, ri_ge2, ri_lt2, ri_gt2, ri_eq2, ri_le3, ri_ge3, ri_lt3, ri_gt3, ri_eq3, ri_le4, ri_ge4, ri_lt4, ri_gt4, ri_eq4, ri_le5, ri_ge5, ri_lt5, ri_gt5, ri_eq5, ri_le10, ri_ge10, ri_lt10, ri_gt10, ri_eq10, ri_le12, ri_ge12, ri_lt12, ri_gt12, ri_eq12, ri_le16, ri_ge16, ri_lt16, ri_gt16, ri_eq16, ri_le20, ri_ge20, ri_lt20, ri_gt20, ri_eq20, ri_le32, ri_ge32, ri_lt32, ri_gt32, ri_eq32, ri_le80, ri_ge80, ri_lt80, ri_gt80, ri_eq80]
    exact ⟨hq, br_t (Nat.le_refl _) p⟩
  · intro n k hk hf p
    have := SE (5 * q + k)
    simp only [wX_areInConflict_15]
    simp (disch := omega) only [nI_clamp, ri_n_ap, ri_b_ap, ri_x_ap, ri_y_ap, ri_in, ri_B0, ri_B1, ri_nm2, ri_nm1, ri_cx_z, ri_cx_n, ri_cy_n, ri_cy_g, ri_cx_e, ri_cy_e, nI_1, nI_add, ri_mul5, ri_mul5', ri_mul2, ri_mul2', ri_add5, ri_div2, ri_two, ri_01, ri_10, nI_eq, nI_leI, nI_ltI, forall_eq, not_false_eq_true, true_and, and_true, not_true_eq_false, false_implies, implies_true, true_implies, ri_le0, ri_ge0, ri_lt0, ri_gt0, ri_eq0, ri_le1, ri_ge1, ri_lt1, ri_gt1, ri_eq1, ri_le2, ri_ge2, ri_lt2, ri_gt2, ri_eq2, ri_le3, ri_ge3, ri_lt3, ri_gt3, ri_eq3, ri_le4, ri_ge4, ri_lt4, ri_gt4, ri_eq4, ri_le5, ri_ge5, ri_lt5, ri_gt5, ri_eq5, ri_le10, ri_ge10, ri_lt10, ri_gt10, ri_eq10, ri_le12, ri_ge12, ri_lt12, ri_gt12, ri_eq12, ri_le16, ri_ge16, ri_lt16, ri_gt16, ri_eq16, ri_le20, ri_ge20, ri_lt20, ri_gt20, ri_eq20, ri_le32, ri_ge32, ri_lt32, ri_gt32, ri_eq32, ri_le80, ri_ge80, ri_lt80, ri_gt80, ri_eq80]
    refine ⟨hq, br_f (by omega) ⟨by omega, by omega, br_c (fun _ => p) (fun z => ⟨by omega, by omega, rx_br (SJ _) (SJ _) FO FT ?_⟩)⟩⟩
    simp (disch := omega) only [nI_clamp, ri_n_ap, ri_b_ap, ri_x_ap, ri_y_ap, ri_in, ri_B0, ri_B1, ri_nm2, ri_nm1, ri_cx_z, ri_cx_n, ri_cy_n, ri_cy_g, ri_cx_e, ri_cy_e, nI_1, nI_add, ri_mul5, ri_mul5', ri_mul2, ri_mul2', ri_add5, ri_div2, ri_two, ri_01, ri_10, nI_eq, nI_leI, nI_ltI, forall_eq, not_false_eq_true, true_and, and_true, not_true_eq_false, false_implies, implies_true, true_implies, ri_le0, ri_ge0, ri_lt0, ri_gt0, ri_eq0, ri_le1, ri_ge1, ri_lt1, ri_gt1, ri_eq1, ri_le2, ri_ge2, ri_lt2, ri_gt2, ri_eq2, ri_le3, ri_ge3, ri_lt3, ri_gt3, ri_eq3, ri_le4, ri_ge4, ri_lt4, ri_gt4, ri_eq4, ri_le5, ri_ge5, ri_lt5, ri_gt5, ri_eq5, ri_le10, ri_ge10, ri_lt10, ri_gt10, ri_eq10, ri_le12, ri_ge12, ri_lt12, ri_gt12, ri_eq12, ri_le16, ri_ge16, ri_lt16, ri_gt16, ri_eq16, ri_le20, ri_ge20, ri_lt20, ri_gt20, ri_eq20, ri_le32, ri_ge32, ri_lt32, ri_gt32, ri_eq32, ri_le80, ri_ge80, ri_lt80, ri_gt80, ri_eq80]
    refine br_f ?_ p
    simpa [ri_cf1, z] using hf
  · intro n k hk hf p
    have := SE (5 * q + k)
    simp only [ri_cf1, Bool.or_eq_false_iff, decide_eq_false_iff_not] at hf
    simp only [wX_areInConflict_15]
    simp (disch := omega) only [nI_clamp, ri_n_ap, ri_b_ap, ri_x_ap, ri_y_ap, ri_in, ri_B0, ri_B1, ri_nm2, ri_nm1, ri_cx_z, ri_cx_n, ri_cy_n, ri_cy_g, ri_cx_e, ri_cy_e, nI_1, nI_add, ri_mul5, ri_mul5', ri_mul2, ri_mul2', ri_add5, ri_div2, ri_two, ri_01, ri_10, nI_eq, nI_leI, nI_ltI, forall_eq, not_false_eq_true, true_and, and_true, not_true_eq_false, false_implies, implies_true, true_implies, ri_le0, ri_ge0, ri_lt0, ri_gt0, ri_eq0, ri_le1, ri_ge1, ri_lt1, ri_gt1, ri_eq1, ri_le2, ri_ge2, ri_lt2, ri_gt2, ri_eq2, ri_le3, ri_ge3, ri_lt3, ri_gt3, ri_eq3, ri_le4, ri_ge4, ri_lt4, ri_gt4, ri_eq4, ri_le5, ri_ge5, ri_lt5, ri_gt5, ri_eq5, ri_le10, ri_ge10, ri_lt10, ri_gt10, ri_eq10, ri_le12, ri_ge12, ri_lt12, ri_gt12, ri_eq12, ri_le16, ri_ge16, ri_lt16, ri_gt16, ri_eq16, ri_le20, ri_ge20, ri_lt20, ri_gt20, ri_eq20, ri_le32, ri_ge32, ri_lt32, ri_gt32, ri_eq32, ri_le80, ri_ge80, ri_lt80, ri_gt80, ri_eq80]
    refine ⟨hq, br_f (by omega) ⟨by omega, by omega, br_f hf.1 ⟨by omega, by omega, rx_br (SJ _) (SJ _) FO FT ?_⟩⟩⟩
    simp (disch := omega) only [nI_clamp, ri_n_ap, ri_b_ap, ri_x_ap, ri_y_ap, ri_in, ri_B0, ri_B1, ri_nm2, ri_nm1, ri_cx_z, ri_cx_n, ri_cy_n, ri_cy_g, ri_cx_e, ri_cy_e, nI_1, nI_add, ri_mul5, ri_mul5', ri_mul2, ri_mul2', ri_add5, ri_div2, ri_two, ri_01, ri_10, nI_eq, nI_leI, nI_ltI, forall_eq, not_false_eq_true, true_and, and_true, not_true_eq_false, false_implies, implies_true, true_implies, ri_le0, ri_ge0, ri_lt0, ri_gt0, ri_eq0, ri_le1, ri_ge1, ri_lt1, ri_gt1, ri_eq1, ri_le2, ri_ge2, ri_lt2, ri_gt2, ri_eq2, ri_le3, ri_ge3, ri_lt3, ri_gt3, ri_eq3, ri_le4, ri_ge4, ri_lt4, ri_gt4, ri_eq4, ri_le5, ri_ge5, ri_lt5, ri_gt5, ri_eq5, ri_le10, ri_ge10, ri_lt10, ri_gt10, ri_eq10, ri_le12, ri_ge12, ri_lt12, ri_gt12, ri_eq12, ri_le16, ri_ge16, ri_lt16, ri_gt16, ri_eq16, ri_le20, ri_ge20, ri_lt20, ri_gt20, ri_eq20, ri_le32, ri_ge32, ri_lt32, ri_gt32, ri_eq32, ri_le80, ri_ge80, ri_lt80, ri_gt80, ri_eq80]
    exact br_t hf.2 p
theorem rx_cf {post : Int32 → Prop} {r q : Nat} (hr : r < 16) (hq : q < 16) (RL : ∀ r, rl r ≤ 5) (SJ : ∀ i, sj i < 12) (SE : ∀ i, se i < 20) (FO : ∀ j, fo j < 20) (FT : ∀ j, ft j < 20) (h : post (ri_B (ri_cf fo ft rl sj se r q))) : wpX_areInConflict post (sX J R fo ft ct ej ps sg rs rl sj se cb st wt hd lk hg un dn) (nI r) (nI q) := by
  have hl := RL r
  refine ri_scB (fun n i => wX_areInConflict_2 post (nI r) (nI q) (nI J) (nI R) (ri_n fo) (ri_n ft) (ri_n ct) (ri_n ej) (ri_n ps) (ri_b sg) (ri_n rs) (ri_n rl) (ri_n sj) (ri_n se) cb (ri_b st) (ri_n wt) (ri_b hd) (ri_x lk) (ri_x hg) (ri_x un) (ri_n dn) n (nI i)) post _ (rl r) h ?_ ?_ ?_
  · intro k p
    simp only [wX_areInConflict_2]
    simp (disch := omega) only [nI_clamp, ri_n_ap, ri_b_ap, ri_x_ap, ri_y_ap, ri_in, ri_B0, ri_B1, ri_nm2, ri_nm1, ri_cx_z, ri_cx_n, ri_cy_n, ri_cy_g, ri_cx_e, ri_cy_e, nI_1, nI_add, ri_mul5, ri_mul5', ri_mul2, ri_mul2', ri_add5, ri_div2, ri_two, ri_01, ri_10, nI_eq, nI_leI, nI_ltI, forall_eq, not_false_eq_true, true_and, and_true, not_true_eq_false, false_implies, implies_true, true_implies, ri_le0, ri_ge0, ri_lt0, ri_gt0, ri_eq0, ri_le1, ri_ge1, ri_lt1, ri_gt1, ri_eq1, ri_le2, ri_ge2, ri_lt2, ri_gt2, ri_eq2, ri_le3, ri_ge3, ri_lt3, ri_gt3, ri_eq3, ri_le4, ri_ge4, ri_lt4, ri_gt4, ri_eq4, ri_le5, ri_ge5, ri_lt5, ri_gt5, ri_eq5, ri_le10, ri_ge10, ri_lt10, ri_gt10, ri_eq10, ri_le12, ri_ge12, ri_lt12, ri_gt12, ri_eq12, ri_le16, ri_ge16, ri_lt16, ri_gt16, ri_eq16, ri_le20, ri_ge20, ri_lt20, ri_gt20, ri_eq20, ri_le32, ri_ge32, ri_lt32, ri_gt32, ri_eq32, ri_le80, ri_ge80, ri_lt80, ri_gt80, ri_eq80]
    exact ⟨hr, br_t (Nat.le_refl _) p⟩
  · intro k i hi hf p
    simp only [wX_areInConflict_2]
    simp (disch := omega) only [nI_clamp, ri_n_ap, ri_b_ap, ri_x_ap, ri_y_ap, ri_in, ri_B0, ri_B1, ri_nm2, ri_nm1, ri_cx_z, ri_cx_n, ri_cy_n, ri_cy_g, ri_cx_e, ri_cy_e, nI_1, nI_add, ri_mul5, ri_mul5', ri_mul2, ri_mul2', ri_add5, ri_div2, ri_two, ri_01, ri_10, nI_eq, nI_leI, nI_ltI, forall_eq, not_false_eq_true, true_and, and_true, not_true_eq_false, false_implies, implies_true, true_implies, ri_le0, ri_ge0, ri_lt0, ri_gt0, ri_eq0, ri_le1, ri_ge1, ri_lt1, ri_gt1, ri_eq1, ri_le2, ri_ge2, ri_lt2, ri_gt2, ri_eq2, ri_le3, ri_ge3, ri_lt3, ri_gt3, ri_eq3, ri_le4, ri_ge4, ri_lt4, ri_gt4, ri_eq4, ri_le5, ri_ge5, ri_lt5, ri_gt5, ri_eq5, ri_le10, ri_ge10, ri_lt10, ri_gt10, ri_eq10, ri_le12, ri_ge12, ri_lt12, ri_gt12, ri_eq12, ri_le16, ri_ge16, ri_lt16, ri_gt16, ri_eq16, ri_le20, ri_ge20, ri_lt20, ri_gt20, ri_eq20, ri_le32, ri_ge32, ri_lt32, ri_gt32, ri_eq32, ri_le80, ri_ge80, ri_lt80, ri_gt80, ri_eq80]
    exact ⟨hr, br_f (by omega) (rx_cfI hr hq (by omega) RL SJ SE FO FT (fun e => by rw [hf] at e; exact absurd e (by decide)) (fun _ => p))⟩
  · intro k i hi hf p
    simp only [wX_areInConflict_2]
    simp (disch := omega) only [nI_clamp, ri_n_ap, ri_b_ap, ri_x_ap, ri_y_ap, ri_in, ri_B0, ri_B1, ri_nm2, ri_nm1, ri_cx_z, ri_cx_n, ri_cy_n, ri_cy_g, ri_cx_e, ri_cy_e, nI_1, nI_add, ri_mul5, ri_mul5', ri_mul2, ri_mul2', ri_add5, ri_div2, ri_two, ri_01, ri_10, nI_eq, nI_leI, nI_ltI, forall_eq, not_false_eq_true, true_and, and_true, not_true_eq_false, false_implies, implies_true, true_implies, ri_le0, ri_ge0, ri_lt0, ri_gt0, ri_eq0, ri_le1, ri_ge1, ri_lt1, ri_gt1, ri_eq1, ri_le2, ri_ge2, ri_lt2, ri_gt2, ri_eq2, ri_le3, ri_ge3, ri_lt3, ri_gt3, ri_eq3, ri_le4, ri_ge4, ri_lt4, ri_gt4, ri_eq4, ri_le5, ri_ge5, ri_lt5, ri_gt5, ri_eq5, ri_le10, ri_ge10, ri_lt10, ri_gt10, ri_eq10, ri_le12, ri_ge12, ri_lt12, ri_gt12, ri_eq12, ri_le16, ri_ge16, ri_lt16, ri_gt16, ri_eq16, ri_le20, ri_ge20, ri_lt20, ri_gt20, ri_eq20, ri_le32, ri_ge32, ri_lt32, ri_gt32, ri_eq32, ri_le80, ri_ge80, ri_lt80, ri_gt80, ri_eq80]
    exact ⟨hr, br_f (by omega) (rx_cfI hr hq (by omega) RL SJ SE FO FT (fun _ => p) (fun e => by rw [hf] at e; exact absurd e (by decide)))⟩
def ri_bm (f : Nat → Bool) : Nat → Nat
  | 0 => 0
  | n + 1 => ri_bm f n + (if f n = true then 2 ^ n else 0)
theorem ri_bm_lt (f : Nat → Bool) : ∀ n, ri_bm f n < 2 ^ n := by
  intro n
  induction n with
  | zero => exact Nat.one_pos
  | succ n ih => simp only [ri_bm]; rw [Nat.pow_succ]; split <;> omega
theorem ri_p31 {n : Nat} (h : n ≤ 30) : 2 ^ n < 2 ^ 31 := Nat.pow_lt_pow_right (by decide) (by omega)
theorem ri_bm_or {f : Nat → Bool} {n : Nat} (h : f n = true) : ri_bm f n ||| 2 ^ n = ri_bm f (n + 1) := by
  have := Nat.two_pow_add_eq_or_of_lt (ri_bm_lt f n) 1
  rw [Nat.mul_one] at this
  simp only [ri_bm, h, if_true]
  rw [Nat.or_comm, ← this, Nat.add_comm]
theorem ri_bm_no {f : Nat → Bool} {n : Nat} (h : f n = false) : ri_bm f n = ri_bm f (n + 1) := by
  simp only [ri_bm, h]; rfl
theorem ri_bm_b {f : Nat → Bool} {q : Nat} : ∀ n, (ri_bm f n).testBit q = (decide (q < n) && f q) := by
  intro n
  induction n with
  | zero => simp [ri_bm]
  | succ n ih =>
    cases e : f n with
    | true =>
      rw [← ri_bm_or e, Nat.testBit_or, ih, Nat.testBit_two_pow]
      by_cases z : n = q
      · subst z; simp [e]
      · by_cases y : q < n
        · simp [y, z, show q < n + 1 by omega]
        · simp [y, z, show ¬ q < n + 1 by omega]
    | false =>
      rw [← ri_bm_no e, ih]
      by_cases z : n = q
      · subst z; simp [e]
      · by_cases y : q < n
        · simp [y, show q < n + 1 by omega]
        · simp [y, show ¬ q < n + 1 by omega]
theorem ri_bm_c {f g : Nat → Bool} {n : Nat} (h : ∀ i, i < n → f i = g i) : ri_bm f n = ri_bm g n := by
  induction n with
  | zero => rfl
  | succ n ih => simp only [ri_bm]; rw [ih (fun i hi => h i (by omega)), h n (by omega)]
def ri_row (fo ft rl sj se : Nat → Nat) (r q : Nat) : Bool := decide (r = q) || ri_cf fo ft rl sj se r q
def ri_cbs (fo ft rl sj se : Nat → Nat) (R : Nat) (cb : Nat → Int32) : Nat → Nat → Int32
  | 0 => cb
  | r + 1 => upd (ri_cbs fo ft rl sj se R cb r) r (nI (ri_bm (ri_row fo ft rl sj se r) R))
theorem ri_cbs_r : ∀ n r, r < n → ri_cbs fo ft rl sj se R cb n r = nI (ri_bm (ri_row fo ft rl sj se r) R) := by
  intro n
  induction n with
  | zero => intro r h; omega
  | succ n ih =>
    intro r h
    by_cases e : r = n
    · subst e; exact pk_us
    · exact (pk_un e).trans (ih r (by omega))
theorem ri_uu {a : Nat → Int32} {i : Nat} {x y : Int32} : upd (upd a i x) i y = upd a i y := by
  funext j; simp only [upd]; split <;> rfl
theorem rx_fcI {post : SX → Prop} {J2 : Int32 → (Nat → Int32) → (Nat → Int32) → (Nat → Int32) → (Nat → Int32) → (Nat → Int32) → (Nat → Int32) → (Nat → Int32) → (Nat → Int32) → (Nat → Int32) → (Nat → Int32) → (Nat → Int32) → (Nat → Int32) → (Nat → Int32) → (Nat → Int32) → (Nat → Int32) → (Nat → Int32) → (Nat → Int32) → (Nat → Int32) → Prop} {r : Nat} {c : Nat → Int32} (hr : r < R) (hR : R ≤ 16) (RL : ∀ r, rl r ≤ 5) (SJ : ∀ i, sj i < 12) (SE : ∀ i, se i < 20) (FO : ∀ j, fo j < 20) (FT : ∀ j, ft j < 20) (h : J2 (nI (r + 1)) (ri_n fo) (ri_n ft) (ri_n ct) (ri_n ej) (ri_n ps) (ri_b sg) (ri_n rs) (ri_n rl) (ri_n sj) (ri_n se) (upd c r (nI (ri_bm (ri_row fo ft rl sj se r) R))) (ri_b st) (ri_n wt) (ri_b hd) (ri_x lk) (ri_x hg) (ri_x un) (ri_n dn)) : ∃ n, wX_findConflicts_19 post J2 (nI r) (nI J) (nI R) n 0 (ri_n fo) (ri_n ft) (ri_n ct) (ri_n ej) (ri_n ps) (ri_b sg) (ri_n rs) (ri_n rl) (ri_n sj) (ri_n se) (upd c r 0) (ri_b st) (ri_n wt) (ri_b hd) (ri_x lk) (ri_x hg) (ri_x un) (ri_n dn) := by
  refine ri_fo (fun n q => wX_findConflicts_19 post J2 (nI r) (nI J) (nI R) n (nI q) (ri_n fo) (ri_n ft) (ri_n ct) (ri_n ej) (ri_n ps) (ri_b sg) (ri_n rs) (ri_n rl) (ri_n sj) (ri_n se) (upd c r (nI (ri_bm (ri_row fo ft rl sj se r) q))) (ri_b st) (ri_n wt) (ri_b hd) (ri_x lk) (ri_x hg) (ri_x un) (ri_n dn)) R ?_ ?_
  · intro n
    simp only [wX_findConflicts_19]
    simp (disch := omega) only [nI_clamp, ri_n_ap, ri_b_ap, ri_x_ap, ri_y_ap, ri_in, ri_B0, ri_B1, ri_nm2, ri_nm1, ri_cx_z, ri_cx_n, ri_cy_n, ri_cy_g, ri_cx_e, ri_cy_e, nI_1, nI_add, ri_mul5, ri_mul5', ri_mul2, ri_mul2', ri_add5, ri_div2, ri_two, ri_01, ri_10, nI_eq, nI_leI, nI_ltI, forall_eq, not_false_eq_true, true_and, and_true, not_true_eq_false, false_implies, implies_true, true_implies, ri_le0, ri_ge0, ri_lt0, ri_gt0, ri_eq0, ri_le1, ri_ge1, ri_lt1, ri_gt1, ri_eq1, ri_le2, ri_ge2, ri_lt2, ri_gt2, ri_eq2, ri_le3, ri_ge3, ri_lt3, ri_gt3, ri_eq3, ri_le4, ri_ge4, ri_lt4, ri_gt4, ri_eq4, ri_le5, ri_ge5, ri_lt5, ri_gt5, ri_eq5, ri_le10, ri_ge10, ri_lt10, ri_gt10, ri_eq10, ri_le12, ri_ge12, ri_lt12, ri_gt12, ri_eq12, ri_le16, ri_ge16, ri_lt16, ri_gt16, ri_eq16, ri_le20, ri_ge20, ri_lt20, ri_gt20, ri_eq20, ri_le32, ri_ge32, ri_lt32, ri_gt32, ri_eq32, ri_le80, ri_ge80, ri_lt80, ri_gt80, ri_eq80]
    exact br_t (Nat.le_refl _) h
  · intro n q hq p
    have hb := ri_bm_lt (ri_row fo ft rl sj se r) q
    have hp := ri_p31 (n := q) (by omega)
    have key : ri_row fo ft rl sj se r q = true → wX_findConflicts_41 post J2 (wX_findConflicts_19 post J2 (nI r) (nI J) (nI R) n) (nI r) (nI q) (nI J) (nI R) (ri_n fo) (ri_n ft) (ri_n ct) (ri_n ej) (ri_n ps) (ri_b sg) (ri_n rs) (ri_n rl) (ri_n sj) (ri_n se) (upd c r (nI (ri_bm (ri_row fo ft rl sj se r) q))) (ri_b st) (ri_n wt) (ri_b hd) (ri_x lk) (ri_x hg) (ri_x un) (ri_n dn) := by
      intro e
      simp only [wX_findConflicts_41]
      simp (disch := omega) only [nI_clamp, pk_us, ri_sh1, ri_or, ri_in, ri_uu, ri_bm_or e, nI_1]
      exact ⟨by omega, by omega, nm_e (nm_e p)⟩
    simp only [wX_findConflicts_19]
    simp (disch := omega) only [nI_clamp, ri_n_ap, ri_b_ap, ri_x_ap, ri_y_ap, ri_in, ri_B0, ri_B1, ri_nm2, ri_nm1, ri_cx_z, ri_cx_n, ri_cy_n, ri_cy_g, ri_cx_e, ri_cy_e, nI_1, nI_add, ri_mul5, ri_mul5', ri_mul2, ri_mul2', ri_add5, ri_div2, ri_two, ri_01, ri_10, nI_eq, nI_leI, nI_ltI, forall_eq, not_false_eq_true, true_and, and_true, not_true_eq_false, false_implies, implies_true, true_implies, ri_le0, ri_ge0, ri_lt0, ri_gt0, ri_eq0, ri_le1, ri_ge1, ri_lt1, ri_gt1, ri_eq1, ri_le2, ri_ge2, ri_lt2, ri_gt2, ri_eq2, ri_le3, ri_ge3, ri_lt3, ri_gt3, ri_eq3, ri_le4, ri_ge4, ri_lt4, ri_gt4, ri_eq4, ri_le5, ri_ge5, ri_lt5, ri_gt5, ri_eq5, ri_le10, ri_ge10, ri_lt10, ri_gt10, ri_eq10, ri_le12, ri_ge12, ri_lt12, ri_gt12, ri_eq12, ri_le16, ri_ge16, ri_lt16, ri_gt16, ri_eq16, ri_le20, ri_ge20, ri_lt20, ri_gt20, ri_eq20, ri_le32, ri_ge32, ri_lt32, ri_gt32, ri_eq32, ri_le80, ri_ge80, ri_lt80, ri_gt80, ri_eq80]
    refine br_f (by omega) (br_c (fun z => key (by simp [ri_row, z])) (fun z => rx_cf (by omega) (by omega) RL SJ SE FO FT ?_))
    simp (disch := omega) only [nI_clamp, ri_n_ap, ri_b_ap, ri_x_ap, ri_y_ap, ri_in, ri_B0, ri_B1, ri_nm2, ri_nm1, ri_cx_z, ri_cx_n, ri_cy_n, ri_cy_g, ri_cx_e, ri_cy_e, nI_1, nI_add, ri_mul5, ri_mul5', ri_mul2, ri_mul2', ri_add5, ri_div2, ri_two, ri_01, ri_10, nI_eq, nI_leI, nI_ltI, forall_eq, not_false_eq_true, true_and, and_true, not_true_eq_false, false_implies, implies_true, true_implies, ri_le0, ri_ge0, ri_lt0, ri_gt0, ri_eq0, ri_le1, ri_ge1, ri_lt1, ri_gt1, ri_eq1, ri_le2, ri_ge2, ri_lt2, ri_gt2, ri_eq2, ri_le3, ri_ge3, ri_lt3, ri_gt3, ri_eq3, ri_le4, ri_ge4, ri_lt4, ri_gt4, ri_eq4, ri_le5, ri_ge5, ri_lt5, ri_gt5, ri_eq5, ri_le10, ri_ge10, ri_lt10, ri_gt10, ri_eq10, ri_le12, ri_ge12, ri_lt12, ri_gt12, ri_eq12, ri_le16, ri_ge16, ri_lt16, ri_gt16, ri_eq16, ri_le20, ri_ge20, ri_lt20, ri_gt20, ri_eq20, ri_le32, ri_ge32, ri_lt32, ri_gt32, ri_eq32, ri_le80, ri_ge80, ri_lt80, ri_gt80, ri_eq80]
    refine br_c (fun y => ?_) (fun y => key ?_)
    · rw [← ri_bm_no (show ri_row fo ft rl sj se r q = false by simp [ri_row, z, y])] at p
      exact p
    · rw [Bool.not_eq_false] at y; simp [ri_row, y]
theorem rx_fc {post : SX → Prop} (hR : R ≤ 16) (RL : ∀ r, rl r ≤ 5) (SJ : ∀ i, sj i < 12) (SE : ∀ i, se i < 20) (FO : ∀ j, fo j < 20) (FT : ∀ j, ft j < 20) (h : post (sX J R fo ft ct ej ps sg rs rl sj se (ri_cbs fo ft rl sj se R cb R) st wt hd lk hg un dn)) : wpX_findConflicts post (sX J R fo ft ct ej ps sg rs rl sj se cb st wt hd lk hg un dn) := by
  refine ri_fo (fun n r => wX_findConflicts_2 post (nI J) (nI R) n (nI r) (ri_n fo) (ri_n ft) (ri_n ct) (ri_n ej) (ri_n ps) (ri_b sg) (ri_n rs) (ri_n rl) (ri_n sj) (ri_n se) (ri_cbs fo ft rl sj se R cb r) (ri_b st) (ri_n wt) (ri_b hd) (ri_x lk) (ri_x hg) (ri_x un) (ri_n dn)) R ?_ ?_
  · intro n
    simp only [wX_findConflicts_2]
    simp (disch := omega) only [nI_clamp, ri_n_ap, ri_b_ap, ri_x_ap, ri_y_ap, ri_in, ri_B0, ri_B1, ri_nm2, ri_nm1, ri_cx_z, ri_cx_n, ri_cy_n, ri_cy_g, ri_cx_e, ri_cy_e, nI_1, nI_add, ri_mul5, ri_mul5', ri_mul2, ri_mul2', ri_add5, ri_div2, ri_two, ri_01, ri_10, nI_eq, nI_leI, nI_ltI, forall_eq, not_false_eq_true, true_and, and_true, not_true_eq_false, false_implies, implies_true, true_implies, ri_le0, ri_ge0, ri_lt0, ri_gt0, ri_eq0, ri_le1, ri_ge1, ri_lt1, ri_gt1, ri_eq1, ri_le2, ri_ge2, ri_lt2, ri_gt2, ri_eq2, ri_le3, ri_ge3, ri_lt3, ri_gt3, ri_eq3, ri_le4, ri_ge4, ri_lt4, ri_gt4, ri_eq4, ri_le5, ri_ge5, ri_lt5, ri_gt5, ri_eq5, ri_le10, ri_ge10, ri_lt10, ri_gt10, ri_eq10, ri_le12, ri_ge12, ri_lt12, ri_gt12, ri_eq12, ri_le16, ri_ge16, ri_lt16, ri_gt16, ri_eq16, ri_le20, ri_ge20, ri_lt20, ri_gt20, ri_eq20, ri_le32, ri_ge32, ri_lt32, ri_gt32, ri_eq32, ri_le80, ri_ge80, ri_lt80, ri_gt80, ri_eq80]
    exact br_t (Nat.le_refl _) h
  · intro n r hr p
    simp only [wX_findConflicts_2]
    simp (disch := omega) only [nI_clamp, ri_in, nI_leI]
    refine br_f (by omega) ⟨by omega, nm_e (rx_fcI hr hR RL SJ SE FO FT p)⟩
/-! Y -/
def ri_df (fo ft ct ej : Nat → Nat) (j i x : Nat) : Bool := decide (ri_nd ct ej j (ri_eo fo ft j (x / 2)) ≠ 0) && (decide (ri_nd ct ej i (ri_eo fo ft i (x % 2)) ≠ 0) && (decide (ri_nd ct ej j (ri_eo fo ft j (x / 2)) ≠ ri_nd ct ej i (ri_eo fo ft i (x % 2))) && decide (ri_eo fo ft j (x / 2) = ri_eo fo ft i (x % 2))))
theorem ry_df {post : Int32 → Prop} {j i : Nat} (hj : j < 12) (hi : i < 12) (HJ : ri_J J fo ft ct ej) (h : post (ri_B (ri_ba (ri_df fo ft ct ej j i) 4))) : wpY_differ post (sY J R fo ft sg ps rs rl sj se st wt hd lk hg un dn rv mt nx) (nI j) (nI i) := by
  refine ri_scB (fun n x => wY_differ_2 post (nI j) (nI i) (nI J) (nI R) (ri_n fo) (ri_n ft) (ri_b sg) (ri_n ps) (ri_n rs) (ri_n rl) (ri_n sj) (ri_n se) (ri_b st) (ri_n wt) (ri_b hd) (ri_x lk) (ri_y hg) (ri_y un) (ri_n dn) rv mt nx n (nI x)) post _ 4 h ?_ ?_ ?_
  · intro k p
    simp only [wY_differ_2]
    simp (disch := omega) only [nI_clamp, ri_n_ap, ri_b_ap, ri_x_ap, ri_y_ap, ri_in, ri_B0, ri_B1, ri_nm2, ri_nm1, ri_cx_z, ri_cx_n, ri_cy_n, ri_cy_g, ri_cx_e, ri_cy_e, nI_1, nI_add, ri_mul5, ri_mul5', ri_mul2, ri_mul2', ri_add5, ri_div2, ri_two, ri_01, ri_10, nI_eq, nI_leI, nI_ltI, forall_eq, not_false_eq_true, true_and, and_true, not_true_eq_false, false_implies, implies_true, true_implies, ri_le0, ri_ge0, ri_lt0, ri_gt0, ri_eq0, ri_le1, ri_ge1, ri_lt1, ri_gt1, ri_eq1, ri_le2, ri_ge2, ri_lt2, ri_gt2, ri_eq2, ri_le3, ri_ge3, ri_lt3, ri_gt3, ri_eq3, ri_le4, ri_ge4, ri_lt4, ri_gt4, ri_eq4, ri_le5, ri_ge5, ri_lt5, ri_gt5, ri_eq5, ri_le10, ri_ge10, ri_lt10, ri_gt10, ri_eq10, ri_le12, ri_ge12, ri_lt12, ri_gt12, ri_eq12, ri_le16, ri_ge16, ri_lt16, ri_gt16, ri_eq16, ri_le20, ri_ge20, ri_lt20, ri_gt20, ri_eq20, ri_le32, ri_ge32, ri_lt32, ri_gt32, ri_eq32, ri_le80, ri_ge80, ri_lt80, ri_gt80, ri_eq80]
    grind
  · intro k x hx hf p
    have := ri_nd_le (ct := ct) (ej := ej) (j := j) (a := ri_eo fo ft j (x / 2))
    have := ri_nd_le (ct := ct) (ej := ej) (j := i) (a := ri_eo fo ft i (x % 2))
    have := ri_eo_lt (j := j) (z := x / 2) HJ.2.1 HJ.2.2.1
    have := ri_eo_lt (j := i) (z := x % 2) HJ.2.1 HJ.2.2.1
    simp only [ri_df, Bool.and_eq_true, decide_eq_true_eq] at hf
    simp only [wY_differ_2]
    simp (disch := omega) only [ri_rem2]
    simp (disch := omega) only [nI_clamp, ri_n_ap, ri_b_ap, ri_x_ap, ri_y_ap, ri_in, ri_B0, ri_B1, ri_nm2, ri_nm1, ri_cx_z, ri_cx_n, ri_cy_n, ri_cy_g, ri_cx_e, ri_cy_e, nI_1, nI_add, ri_mul5, ri_mul5', ri_mul2, ri_mul2', ri_add5, ri_div2, ri_two, ri_01, ri_10, nI_eq, nI_leI, nI_ltI, forall_eq, not_false_eq_true, true_and, and_true, not_true_eq_false, false_implies, implies_true, true_implies, ri_le0, ri_ge0, ri_lt0, ri_gt0, ri_eq0, ri_le1, ri_ge1, ri_lt1, ri_gt1, ri_eq1, ri_le2, ri_ge2, ri_lt2, ri_gt2, ri_eq2, ri_le3, ri_ge3, ri_lt3, ri_gt3, ri_eq3, ri_le4, ri_ge4, ri_lt4, ri_gt4, ri_eq4, ri_le5, ri_ge5, ri_lt5, ri_gt5, ri_eq5, ri_le10, ri_ge10, ri_lt10, ri_gt10, ri_eq10, ri_le12, ri_ge12, ri_lt12, ri_gt12, ri_eq12, ri_le16, ri_ge16, ri_lt16, ri_gt16, ri_eq16, ri_le20, ri_ge20, ri_lt20, ri_gt20, ri_eq20, ri_le32, ri_ge32, ri_lt32, ri_gt32, ri_eq32, ri_le80, ri_ge80, ri_lt80, ri_gt80, ri_eq80]
    refine br_f (by omega) (ry_nd hj (by omega) HJ (ry_nd hi (by omega) HJ ?_))
    simp (disch := omega) only [ri_cy_ee]
    simp (disch := omega) only [nI_clamp, ri_n_ap, ri_b_ap, ri_x_ap, ri_y_ap, ri_in, ri_B0, ri_B1, ri_nm2, ri_nm1, ri_cx_z, ri_cx_n, ri_cy_n, ri_cy_g, ri_cx_e, ri_cy_e, nI_1, nI_add, ri_mul5, ri_mul5', ri_mul2, ri_mul2', ri_add5, ri_div2, ri_two, ri_01, ri_10, nI_eq, nI_leI, nI_ltI, forall_eq, not_false_eq_true, true_and, and_true, not_true_eq_false, false_implies, implies_true, true_implies, ri_le0, ri_ge0, ri_lt0, ri_gt0, ri_eq0, ri_le1, ri_ge1, ri_lt1, ri_gt1, ri_eq1, ri_le2, ri_ge2, ri_lt2, ri_gt2, ri_eq2, ri_le3, ri_ge3, ri_lt3, ri_gt3, ri_eq3, ri_le4, ri_ge4, ri_lt4, ri_gt4, ri_eq4, ri_le5, ri_ge5, ri_lt5, ri_gt5, ri_eq5, ri_le10, ri_ge10, ri_lt10, ri_gt10, ri_eq10, ri_le12, ri_ge12, ri_lt12, ri_gt12, ri_eq12, ri_le16, ri_ge16, ri_lt16, ri_gt16, ri_eq16, ri_le20, ri_ge20, ri_lt20, ri_gt20, ri_eq20, ri_le32, ri_ge32, ri_lt32, ri_gt32, ri_eq32, ri_le80, ri_ge80, ri_lt80, ri_gt80, ri_eq80]
    refine br_f hf.1 (br_f hf.2.1 (br_f hf.2.2.1 (ry_eo hj (by omega) (ry_eo hi (by omega) ?_))))
    simp (disch := omega) only [nI_clamp, ri_n_ap, ri_b_ap, ri_x_ap, ri_y_ap, ri_in, ri_B0, ri_B1, ri_nm2, ri_nm1, ri_cx_z, ri_cx_n, ri_cy_n, ri_cy_g, ri_cx_e, ri_cy_e, nI_1, nI_add, ri_mul5, ri_mul5', ri_mul2, ri_mul2', ri_add5, ri_div2, ri_two, ri_01, ri_10, nI_eq, nI_leI, nI_ltI, forall_eq, not_false_eq_true, true_and, and_true, not_true_eq_false, false_implies, implies_true, true_implies, ri_le0, ri_ge0, ri_lt0, ri_gt0, ri_eq0, ri_le1, ri_ge1, ri_lt1, ri_gt1, ri_eq1, ri_le2, ri_ge2, ri_lt2, ri_gt2, ri_eq2, ri_le3, ri_ge3, ri_lt3, ri_gt3, ri_eq3, ri_le4, ri_ge4, ri_lt4, ri_gt4, ri_eq4, ri_le5, ri_ge5, ri_lt5, ri_gt5, ri_eq5, ri_le10, ri_ge10, ri_lt10, ri_gt10, ri_eq10, ri_le12, ri_ge12, ri_lt12, ri_gt12, ri_eq12, ri_le16, ri_ge16, ri_lt16, ri_gt16, ri_eq16, ri_le20, ri_ge20, ri_lt20, ri_gt20, ri_eq20, ri_le32, ri_ge32, ri_lt32, ri_gt32, ri_eq32, ri_le80, ri_ge80, ri_lt80, ri_gt80, ri_eq80]
    exact br_t hf.2.2.2 p
  · intro k x hx hf p
    have := ri_nd_le (ct := ct) (ej := ej) (j := j) (a := ri_eo fo ft j (x / 2))
    have := ri_nd_le (ct := ct) (ej := ej) (j := i) (a := ri_eo fo ft i (x % 2))
    have := ri_eo_lt (j := j) (z := x / 2) HJ.2.1 HJ.2.2.1
    have := ri_eo_lt (j := i) (z := x % 2) HJ.2.1 HJ.2.2.1
    simp only [wY_differ_2]
    simp (disch := omega) only [ri_rem2]
    simp (disch := omega) only [nI_clamp, ri_n_ap, ri_b_ap, ri_x_ap, ri_y_ap, ri_in, ri_B0, ri_B1, ri_nm2, ri_nm1, ri_cx_z, ri_cx_n, ri_cy_n, ri_cy_g, ri_cx_e, ri_cy_e, nI_1, nI_add, ri_mul5, ri_mul5', ri_mul2, ri_mul2', ri_add5, ri_div2, ri_two, ri_01, ri_10, nI_eq, nI_leI, nI_ltI, forall_eq, not_false_eq_true, true_and, and_true, not_true_eq_false, false_implies, implies_true, true_implies, ri_le0, ri_ge0, ri_lt0, ri_gt0, ri_eq0, ri_le1, ri_ge1, ri_lt1, ri_gt1, ri_eq1, ri_le2, ri_ge2, ri_lt2, ri_gt2, ri_eq2, ri_le3, ri_ge3, ri_lt3, ri_gt3, ri_eq3, ri_le4, ri_ge4, ri_lt4, ri_gt4, ri_eq4, ri_le5, ri_ge5, ri_lt5, ri_gt5, ri_eq5, ri_le10, ri_ge10, ri_lt10, ri_gt10, ri_eq10, ri_le12, ri_ge12, ri_lt12, ri_gt12, ri_eq12, ri_le16, ri_ge16, ri_lt16, ri_gt16, ri_eq16, ri_le20, ri_ge20, ri_lt20, ri_gt20, ri_eq20, ri_le32, ri_ge32, ri_lt32, ri_gt32, ri_eq32, ri_le80, ri_ge80, ri_lt80, ri_gt80, ri_eq80]
    refine br_f (by omega) (ry_nd hj (by omega) HJ (ry_nd hi (by omega) HJ ?_))
    simp (disch := omega) only [ri_cy_ee]
    simp (disch := omega) only [nI_clamp, ri_n_ap, ri_b_ap, ri_x_ap, ri_y_ap, ri_in, ri_B0, ri_B1, ri_nm2, ri_nm1, ri_cx_z, ri_cx_n, ri_cy_n, ri_cy_g, ri_cx_e, ri_cy_e, nI_1, nI_add, ri_mul5, ri_mul5', ri_mul2, ri_mul2', ri_add5, ri_div2, ri_two, ri_01, ri_10, nI_eq, nI_leI, nI_ltI, forall_eq, not_false_eq_true, true_and, and_true, not_true_eq_false, false_implies, implies_true, true_implies, ri_le0, ri_ge0, ri_lt0, ri_gt0, ri_eq0, ri_le1, ri_ge1, ri_lt1, ri_gt1, ri_eq1, ri_le2, ri_ge2, ri_lt2, ri_gt2, ri_eq2, ri_le3, ri_ge3, ri_lt3, ri_gt3, ri_eq3, ri_le4, ri_ge4, ri_lt4, ri_gt4, ri_eq4, ri_le5, ri_ge5, ri_lt5, ri_gt5, ri_eq5, ri_le10, ri_ge10, ri_lt10, ri_gt10, ri_eq10, ri_le12, ri_ge12, ri_lt12, ri_gt12, ri_eq12, ri_le16, ri_ge16, ri_lt16, ri_gt16, ri_eq16, ri_le20, ri_ge20, ri_lt20, ri_gt20, ri_eq20, ri_le32, ri_ge32, ri_lt32, ri_gt32, ri_eq32, ri_le80, ri_ge80, ri_lt80, ri_gt80, ri_eq80]
    refine br_c (fun _ => p) (fun y1 => br_c (fun _ => p) (fun y2 => br_c (fun _ => p) (fun y3 => ry_eo hj (by omega) (ry_eo hi (by omega) ?_))))
    simp (disch := omega) only [nI_clamp, ri_n_ap, ri_b_ap, ri_x_ap, ri_y_ap, ri_in, ri_B0, ri_B1, ri_nm2, ri_nm1, ri_cx_z, ri_cx_n, ri_cy_n, ri_cy_g, ri_cx_e, ri_cy_e, nI_1, nI_add, ri_mul5, ri_mul5', ri_mul2, ri_mul2', ri_add5, ri_div2, ri_two, ri_01, ri_10, nI_eq, nI_leI, nI_ltI, forall_eq, not_false_eq_true, true_and, and_true, not_true_eq_false, false_implies, implies_true, true_implies, ri_le0, ri_ge0, ri_lt0, ri_gt0, ri_eq0, ri_le1, ri_ge1, ri_lt1, ri_gt1, ri_eq1, ri_le2, ri_ge2, ri_lt2, ri_gt2, ri_eq2, ri_le3, ri_ge3, ri_lt3, ri_gt3, ri_eq3, ri_le4, ri_ge4, ri_lt4, ri_gt4, ri_eq4, ri_le5, ri_ge5, ri_lt5, ri_gt5, ri_eq5, ri_le10, ri_ge10, ri_lt10, ri_gt10, ri_eq10, ri_le12, ri_ge12, ri_lt12, ri_gt12, ri_eq12, ri_le16, ri_ge16, ri_lt16, ri_gt16, ri_eq16, ri_le20, ri_ge20, ri_lt20, ri_gt20, ri_eq20, ri_le32, ri_ge32, ri_lt32, ri_gt32, ri_eq32, ri_le80, ri_ge80, ri_lt80, ri_gt80, ri_eq80]
    refine br_c (fun y4 => ?_) (fun _ => p)
    have w : ri_df fo ft ct ej j i x = true := by
      simp only [ri_df, ne_eq, Bool.and_eq_true, decide_eq_true_eq]; exact ⟨y1, y2, y3, y4⟩
    rw [w] at hf; exact absurd hf (by decide)
theorem ri_dfbr {j i : Nat} (hj : j < J) (hi : i < J) (HJ : ri_J J fo ft ct ej) : ri_ba (ri_df fo ft ct ej j i) 4 = ri_br fo ft j i := by
  obtain ⟨hJ, FO, FT, CT, EJ, -, H1, H2⟩ := HJ
  have key : ∀ a j i, a < 20 → j < i → i < J → ri_at fo ft a j = true → ri_at fo ft a i = true → ri_nd ct ej j a = 1 ∧ ri_nd ct ej i a = 2 := by
    intro a j i ha hji hi aj ai
    have c1 := ri_cn_l hji aj
    have c2 := ri_cn_l hi ai
    have c3 := H1 a ha
    have c4 := CT a
    have e1 := H2 a ha j (by omega) aj
    have e2 := H2 a ha i hi ai
    rw [show ri_cn (ri_at fo ft a) j = 0 by omega, Nat.add_zero] at e1
    unfold ri_nd
    constructor
    · rw [if_neg (by omega), if_pos e1]
    · rw [if_neg (by omega), if_neg (by omega)]
  have share : ∀ a, a < 20 → j ≠ i → ri_at fo ft a j = true → ri_at fo ft a i = true → ri_nd ct ej j a ≠ 0 ∧ ri_nd ct ej i a ≠ 0 ∧ ri_nd ct ej j a ≠ ri_nd ct ej i a := by
    intro a ha hji aj ai
    rcases Nat.lt_or_gt_of_ne hji with z | z
    · obtain ⟨e1, e2⟩ := key a j i ha z hi aj ai
      rw [e1, e2]; decide
    · obtain ⟨e1, e2⟩ := key a i j ha z hj ai aj
      rw [e1, e2]; decide
  apply ri_beq
  rw [ri_ba_t]
  constructor
  · rintro ⟨x, hx, hf⟩
    simp only [ri_df, Bool.and_eq_true, decide_eq_true_eq] at hf
    obtain ⟨-, -, f3, f4⟩ := hf
    have hne : j ≠ i := by
      intro e; subst e; rw [f4] at f3; exact f3 rfl
    unfold ri_eo at f4
    simp only [ri_br, ne_eq, hne, not_false_eq_true, decide_true, Bool.true_and, Bool.or_eq_true, decide_eq_true_eq]
    split at f4 <;> split at f4 <;> simp [f4]
  · intro hb
    simp only [ri_br, ne_eq, Bool.and_eq_true, Bool.or_eq_true, decide_eq_true_eq] at hb
    obtain ⟨hne, hb⟩ := hb
    rcases hb with e | e | e | e
    · refine ⟨0, by omega, ?_⟩
      have := share (fo j) (FO j) hne (by simp [ri_at]) (by simp [ri_at, e])
      simp [ri_df, ri_eo, ← e, this]
    · refine ⟨1, by omega, ?_⟩
      have := share (fo j) (FO j) hne (by simp [ri_at]) (by simp [ri_at, e])
      simp [ri_df, ri_eo, ← e, this]
    · refine ⟨2, by omega, ?_⟩
      have := share (ft j) (FT j) hne (by simp [ri_at]) (by simp [ri_at, e])
      simp [ri_df, ri_eo, ← e, this]
    · refine ⟨3, by omega, ?_⟩
      have := share (ft j) (FT j) hne (by simp [ri_at]) (by simp [ri_at, e])
      simp [ri_df, ri_eo, ← e, this]
theorem ry_cfI {post J2 : Int32 → Prop} {r q x : Nat} (hq : q < 16) (hx : x < 80) (hxJ : sj x < J) (HJ : ri_J J fo ft ct ej) (RL : ∀ r, rl r ≤ 5) (SJ : ∀ i, sj i < 12) (SE : ∀ i, se i < 20) (SJq : ∀ k, k < rl q → sj (5 * q + k) < J) (h0 : ri_ba (fun k => ri_cf1 fo ft sj se x (5 * q + k)) (rl q) = false → J2 (nI (x + 1))) (h1 : ri_ba (fun k => ri_cf1 fo ft sj se x (5 * q + k)) (rl q) = true → post 1) : ∃ n, wY_conflict_41 post J2 (nI r) (nI q) (nI x) (nI J) (nI R) (ri_n fo) (ri_n ft) (ri_b sg) (ri_n ps) (ri_n rs) (ri_n rl) (ri_n sj) (ri_n se) (ri_b st) (ri_n wt) (ri_b hd) (ri_x lk) (ri_y hg) (ri_y un) (ri_n dn) rv mt nx n (nI (5 * q)) := by
  have hl := RL q
  have := SE x
  refine ri_sc (fun n k => wY_conflict_41 post J2 (nI r) (nI q) (nI x) (nI J) (nI R) (ri_n fo) (ri_n ft) (ri_b sg) (ri_n ps) (ri_n rs) (ri_n rl) (ri_n sj) (ri_n se) (ri_b st) (ri_n wt) (ri_b hd) (ri_x lk) (ri_y hg) (ri_y un) (ri_n dn) rv mt nx n (nI (5 * q + k))) (J2 (nI (x + 1))) (post 1) _ (rl q) ?_ ?_ ?_ h0 h1
  · intro n p
    simp only [wY_conflict_41]
    simp (disch := omega) only [nI_clamp, ri_n_ap, ri_b_ap, ri_x_ap, ri_y_ap, ri_in, ri_B0, ri_B1, ri_nm2, ri_nm1, ri_cx_z, ri_cx_n, ri_cy_n, ri_cy_g, ri_cx_e, ri_cy_e, nI_1, nI_add, ri_mul5, ri_mul5', ri_mul2, ri_mul2', ri_add5, ri_div2, ri_two, ri_01, ri_10, nI_eq, nI_leI, nI_ltI, forall_eq, not_false_eq_true, true_and, and_true, not_true_eq_false, false_implies, implies_true, true_implies, ri_le0, ri_ge0, ri_lt0, ri_gt0, ri_eq0, ri_le1, ri_ge1, ri_lt1, ri_gt1, ri_eq1, ri_le2, ri_ge2, ri_lt2, ri_gt2, ri_eq2, ri_le3, ri_ge3, ri_lt3, ri_gt3, ri_eq3, ri_le4, ri_ge4, ri_lt4, ri_gt4, ri_eq4, ri_le5, ri_ge5, ri_lt5, ri_gt5, ri_eq5, ri_le10, ri_ge10, ri_lt10, ri_gt10, ri_eq10, ri_le12, ri_ge12, ri_lt12, ri_gt12, ri_eq12, ri_le16, ri_ge16, ri_lt16, ri_gt16, ri_eq16, ri_le20, ri_ge20, ri_lt20, ri_gt20, ri_eq20, ri_le32, ri_ge32, ri_lt32, ri_gt32, ri_eq32, ri_le80, ri_ge80, ri_lt80, ri_gt80, ri_eq80]
    exact ⟨hq, br_t (Nat.le_refl _) p⟩
  · intro n k hk hf p
    have := SE (5 * q + k)
    simp only [wY_conflict_41]
    simp (disch := omega) only [nI_clamp, ri_n_ap, ri_b_ap, ri_x_ap, ri_y_ap, ri_in, ri_B0, ri_B1, ri_nm2, ri_nm1, ri_cx_z, ri_cx_n, ri_cy_n, ri_cy_g, ri_cx_e, ri_cy_e, nI_1, nI_add, ri_mul5, ri_mul5', ri_mul2, ri_mul2', ri_add5, ri_div2, ri_two, ri_01, ri_10, nI_eq, nI_leI, nI_ltI, forall_eq, not_false_eq_true, true_and, and_true, not_true_eq_false, false_implies, implies_true, true_implies, ri_le0, ri_ge0, ri_lt0, ri_gt0, ri_eq0, ri_le1, ri_ge1, ri_lt1, ri_gt1, ri_eq1, ri_le2, ri_ge2, ri_lt2, ri_gt2, ri_eq2, ri_le3, ri_ge3, ri_lt3, ri_gt3, ri_eq3, ri_le4, ri_ge4, ri_lt4, ri_gt4, ri_eq4, ri_le5, ri_ge5, ri_lt5, ri_gt5, ri_eq5, ri_le10, ri_ge10, ri_lt10, ri_gt10, ri_eq10, ri_le12, ri_ge12, ri_lt12, ri_gt12, ri_eq12, ri_le16, ri_ge16, ri_lt16, ri_gt16, ri_eq16, ri_le20, ri_ge20, ri_lt20, ri_gt20, ri_eq20, ri_le32, ri_ge32, ri_lt32, ri_gt32, ri_eq32, ri_le80, ri_ge80, ri_lt80, ri_gt80, ri_eq80]
    refine ⟨hq, br_f (by omega) ⟨by omega, by omega, br_c (fun _ => p) (fun z => ⟨by omega, by omega, ry_df (SJ _) (SJ _) HJ ?_⟩)⟩⟩
    rw [ri_dfbr hxJ (SJq k hk) HJ]
    simp (disch := omega) only [nI_clamp, ri_n_ap, ri_b_ap, ri_x_ap, ri_y_ap, ri_in, ri_B0, ri_B1, ri_nm2, ri_nm1, ri_cx_z, ri_cx_n, ri_cy_n, ri_cy_g, ri_cx_e, ri_cy_e, nI_1, nI_add, ri_mul5, ri_mul5', ri_mul2, ri_mul2', ri_add5, ri_div2, ri_two, ri_01, ri_10, nI_eq, nI_leI, nI_ltI, forall_eq, not_false_eq_true, true_and, and_true, not_true_eq_false, false_implies, implies_true, true_implies, ri_le0, ri_ge0, ri_lt0, ri_gt0, ri_eq0, ri_le1, ri_ge1, ri_lt1, ri_gt1, ri_eq1, ri_le2, ri_ge2, ri_lt2, ri_gt2, ri_eq2, ri_le3, ri_ge3, ri_lt3, ri_gt3, ri_eq3, ri_le4, ri_ge4, ri_lt4, ri_gt4, ri_eq4, ri_le5, ri_ge5, ri_lt5, ri_gt5, ri_eq5, ri_le10, ri_ge10, ri_lt10, ri_gt10, ri_eq10, ri_le12, ri_ge12, ri_lt12, ri_gt12, ri_eq12, ri_le16, ri_ge16, ri_lt16, ri_gt16, ri_eq16, ri_le20, ri_ge20, ri_lt20, ri_gt20, ri_eq20, ri_le32, ri_ge32, ri_lt32, ri_gt32, ri_eq32, ri_le80, ri_ge80, ri_lt80, ri_gt80, ri_eq80]
    refine br_f ?_ p
    simpa [ri_cf1, z] using hf
  · intro n k hk hf p
    have := SE (5 * q + k)
    simp only [ri_cf1, Bool.or_eq_false_iff, decide_eq_false_iff_not] at hf
    simp only [wY_conflict_41]
    simp (disch := omega) only [nI_clamp, ri_n_ap, ri_b_ap, ri_x_ap, ri_y_ap, ri_in, ri_B0, ri_B1, ri_nm2, ri_nm1, ri_cx_z, ri_cx_n, ri_cy_n, ri_cy_g, ri_cx_e, ri_cy_e, nI_1, nI_add, ri_mul5, ri_mul5', ri_mul2, ri_mul2', ri_add5, ri_div2, ri_two, ri_01, ri_10, nI_eq, nI_leI, nI_ltI, forall_eq, not_false_eq_true, true_and, and_true, not_true_eq_false, false_implies, implies_true, true_implies, ri_le0, ri_ge0, ri_lt0, ri_gt0, ri_eq0, ri_le1, ri_ge1, ri_lt1, ri_gt1, ri_eq1, ri_le2, ri_ge2, ri_lt2, ri_gt2, ri_eq2, ri_le3, ri_ge3, ri_lt3, ri_gt3, ri_eq3, ri_le4, ri_ge4, ri_lt4, ri_gt4, ri_eq4, ri_le5, ri_ge5, ri_lt5, ri_gt5, ri_eq5, ri_le10, ri_ge10, ri_lt10, ri_gt10, ri_eq10, ri_le12, ri_ge12, ri_lt12, ri_gt12, ri_eq12, ri_le16, ri_ge16, ri_lt16, ri_gt16, ri_eq16, ri_le20, ri_ge20, ri_lt20, ri_gt20, ri_eq20, ri_le32, ri_ge32, ri_lt32, ri_gt32, ri_eq32, ri_le80, ri_ge80, ri_lt80, ri_gt80, ri_eq80]
    refine ⟨hq, br_f (by omega) ⟨by omega, by omega, br_f hf.1 ⟨by omega, by omega, ry_df (SJ _) (SJ _) HJ ?_⟩⟩⟩
    rw [ri_dfbr hxJ (SJq k hk) HJ]
    simp (disch := omega) only [nI_clamp, ri_n_ap, ri_b_ap, ri_x_ap, ri_y_ap, ri_in, ri_B0, ri_B1, ri_nm2, ri_nm1, ri_cx_z, ri_cx_n, ri_cy_n, ri_cy_g, ri_cx_e, ri_cy_e, nI_1, nI_add, ri_mul5, ri_mul5', ri_mul2, ri_mul2', ri_add5, ri_div2, ri_two, ri_01, ri_10, nI_eq, nI_leI, nI_ltI, forall_eq, not_false_eq_true, true_and, and_true, not_true_eq_false, false_implies, implies_true, true_implies, ri_le0, ri_ge0, ri_lt0, ri_gt0, ri_eq0, ri_le1, ri_ge1, ri_lt1, ri_gt1, ri_eq1, ri_le2, ri_ge2, ri_lt2, ri_gt2, ri_eq2, ri_le3, ri_ge3, ri_lt3, ri_gt3, ri_eq3, ri_le4, ri_ge4, ri_lt4, ri_gt4, ri_eq4, ri_le5, ri_ge5, ri_lt5, ri_gt5, ri_eq5, ri_le10, ri_ge10, ri_lt10, ri_gt10, ri_eq10, ri_le12, ri_ge12, ri_lt12, ri_gt12, ri_eq12, ri_le16, ri_ge16, ri_lt16, ri_gt16, ri_eq16, ri_le20, ri_ge20, ri_lt20, ri_gt20, ri_eq20, ri_le32, ri_ge32, ri_lt32, ri_gt32, ri_eq32, ri_le80, ri_ge80, ri_lt80, ri_gt80, ri_eq80]
    exact br_t hf.2 p
theorem ry_cf {post : Int32 → Prop} {r q : Nat} (hr : r < R) (hq : q < R) (hR : R ≤ 16) (HJ : ri_J J fo ft ct ej) (RL : ∀ r, rl r ≤ 5) (SJ : ∀ i, sj i < 12) (SE : ∀ i, se i < 20) (SJr : ∀ r, r < R → ∀ k, k < rl r → sj (5 * r + k) < J) (h : post (ri_B (ri_row fo ft rl sj se r q))) : wpY_conflict post (sY J R fo ft sg ps rs rl sj se st wt hd lk hg un dn rv mt nx) (nI r) (nI q) := by
  have hl := RL r
  simp only [wpY_conflict]
  refine ry_isR1 hR hr ?_
  refine br_f (by decide) (ry_isR1 hR hq ?_)
  refine br_f (by decide) (nm_r (ri_mul5' r) ?_)
  refine ri_sc (fun n i => wY_conflict_22 post (nI r) (nI q) (nI J) (nI R) (ri_n fo) (ri_n ft) (ri_b sg) (ri_n ps) (ri_n rs) (ri_n rl) (ri_n sj) (ri_n se) (ri_b st) (ri_n wt) (ri_b hd) (ri_x lk) (ri_y hg) (ri_y un) (ri_n dn) rv mt nx n (nI (5 * r + i))) (ri_cf fo ft rl sj se r q = false) (post 1) (fun i => ri_ba (fun k => ri_cf1 fo ft sj se (5 * r + i) (5 * q + k)) (rl q)) (rl r) ?_ ?_ ?_ id ?_
  · intro k p
    simp only [wY_conflict_22]
    simp (disch := omega) only [nI_clamp, ri_n_ap, ri_b_ap, ri_x_ap, ri_y_ap, ri_in, ri_B0, ri_B1, ri_nm2, ri_nm1, ri_cx_z, ri_cx_n, ri_cy_n, ri_cy_g, ri_cx_e, ri_cy_e, nI_1, nI_add, ri_mul5, ri_mul5', ri_mul2, ri_mul2', ri_add5, ri_div2, ri_two, ri_01, ri_10, nI_eq, nI_leI, nI_ltI, forall_eq, not_false_eq_true, true_and, and_true, not_true_eq_false, false_implies, implies_true, true_implies, ri_le0, ri_ge0, ri_lt0, ri_gt0, ri_eq0, ri_le1, ri_ge1, ri_lt1, ri_gt1, ri_eq1, ri_le2, ri_ge2, ri_lt2, ri_gt2, ri_eq2, ri_le3, ri_ge3, ri_lt3, ri_gt3, ri_eq3, ri_le4, ri_ge4, ri_lt4, ri_gt4, ri_eq4, ri_le5, ri_ge5, ri_lt5, ri_gt5, ri_eq5, ri_le10, ri_ge10, ri_lt10, ri_gt10, ri_eq10, ri_le12, ri_ge12, ri_lt12, ri_gt12, ri_eq12, ri_le16, ri_ge16, ri_lt16, ri_gt16, ri_eq16, ri_le20, ri_ge20, ri_lt20, ri_gt20, ri_eq20, ri_le32, ri_ge32, ri_lt32, ri_gt32, ri_eq32, ri_le80, ri_ge80, ri_lt80, ri_gt80, ri_eq80]
    refine ⟨by omega, br_t (Nat.le_refl _) ?_⟩
    rw [ri_row, p, Bool.or_false] at h
    refine br_c (fun z => ?_) (fun z => ?_)
    · rw [decide_eq_true z] at h; exact h
    · rw [decide_eq_false z] at h; exact h
  · intro k i hi hf p
    simp only [wY_conflict_22]
    simp (disch := omega) only [nI_clamp, ri_n_ap, ri_b_ap, ri_x_ap, ri_y_ap, ri_in, ri_B0, ri_B1, ri_nm2, ri_nm1, ri_cx_z, ri_cx_n, ri_cy_n, ri_cy_g, ri_cx_e, ri_cy_e, nI_1, nI_add, ri_mul5, ri_mul5', ri_mul2, ri_mul2', ri_add5, ri_div2, ri_two, ri_01, ri_10, nI_eq, nI_leI, nI_ltI, forall_eq, not_false_eq_true, true_and, and_true, not_true_eq_false, false_implies, implies_true, true_implies, ri_le0, ri_ge0, ri_lt0, ri_gt0, ri_eq0, ri_le1, ri_ge1, ri_lt1, ri_gt1, ri_eq1, ri_le2, ri_ge2, ri_lt2, ri_gt2, ri_eq2, ri_le3, ri_ge3, ri_lt3, ri_gt3, ri_eq3, ri_le4, ri_ge4, ri_lt4, ri_gt4, ri_eq4, ri_le5, ri_ge5, ri_lt5, ri_gt5, ri_eq5, ri_le10, ri_ge10, ri_lt10, ri_gt10, ri_eq10, ri_le12, ri_ge12, ri_lt12, ri_gt12, ri_eq12, ri_le16, ri_ge16, ri_lt16, ri_gt16, ri_eq16, ri_le20, ri_ge20, ri_lt20, ri_gt20, ri_eq20, ri_le32, ri_ge32, ri_lt32, ri_gt32, ri_eq32, ri_le80, ri_ge80, ri_lt80, ri_gt80, ri_eq80]
    exact ⟨by omega, br_f (by omega) (ry_cfI (by omega) (by omega) (SJr r hr i hi) HJ RL SJ SE (SJr q hq) (fun e => by rw [hf] at e; exact absurd e (by decide)) (fun _ => p))⟩
  · intro k i hi hf p
    simp only [wY_conflict_22]
    simp (disch := omega) only [nI_clamp, ri_n_ap, ri_b_ap, ri_x_ap, ri_y_ap, ri_in, ri_B0, ri_B1, ri_nm2, ri_nm1, ri_cx_z, ri_cx_n, ri_cy_n, ri_cy_g, ri_cx_e, ri_cy_e, nI_1, nI_add, ri_mul5, ri_mul5', ri_mul2, ri_mul2', ri_add5, ri_div2, ri_two, ri_01, ri_10, nI_eq, nI_leI, nI_ltI, forall_eq, not_false_eq_true, true_and, and_true, not_true_eq_false, false_implies, implies_true, true_implies, ri_le0, ri_ge0, ri_lt0, ri_gt0, ri_eq0, ri_le1, ri_ge1, ri_lt1, ri_gt1, ri_eq1, ri_le2, ri_ge2, ri_lt2, ri_gt2, ri_eq2, ri_le3, ri_ge3, ri_lt3, ri_gt3, ri_eq3, ri_le4, ri_ge4, ri_lt4, ri_gt4, ri_eq4, ri_le5, ri_ge5, ri_lt5, ri_gt5, ri_eq5, ri_le10, ri_ge10, ri_lt10, ri_gt10, ri_eq10, ri_le12, ri_ge12, ri_lt12, ri_gt12, ri_eq12, ri_le16, ri_ge16, ri_lt16, ri_gt16, ri_eq16, ri_le20, ri_ge20, ri_lt20, ri_gt20, ri_eq20, ri_le32, ri_ge32, ri_lt32, ri_gt32, ri_eq32, ri_le80, ri_ge80, ri_lt80, ri_gt80, ri_eq80]
    exact ⟨by omega, br_f (by omega) (ry_cfI (by omega) (by omega) (SJr r hr i hi) HJ RL SJ SE (SJr q hq) (fun _ => p) (fun e => by rw [hf] at e; exact absurd e (by decide)))⟩
  · intro e
    rw [ri_row, show ri_cf fo ft rl sj se r q = true from e, Bool.or_true] at h
    exact h
end
end
section
section
variable {J R : Nat} {fo ft ct ej ps : Nat → Nat} {sg : Nat → Bool} {rs rl sj se : Nat → Nat} {cb : Nat → Int32} {st : Nat → Bool} {wt : Nat → Nat} {hd : Nat → Bool} {lk hg un dn : Nat → Nat} {rv mt nx : Nat → Int32}
theorem ri_tb {A m : Nat} : (A / 2 ^ m % 2 = 0) ↔ A.testBit m = false := by
  rw [Nat.testBit_eq_decide_div_mod_eq, decide_eq_false_iff_not]; omega
theorem ri_tb1 {A m : Nat} : (A / 2 ^ m % 2 = 1) ↔ A.testBit m = true := by
  rw [Nat.testBit_eq_decide_div_mod_eq, decide_eq_true_eq]
theorem ri_and0 {x y : Nat} : (x &&& y = 0) ↔ ∀ q, (x.testBit q && y.testBit q) = false := by
  constructor
  · intro h q; rw [← Nat.testBit_and, h, Nat.zero_testBit]
  · intro h; apply Nat.eq_of_testBit_eq; intro q; rw [Nat.testBit_and, h q, Nat.zero_testBit]
theorem ri_hi {A n q : Nat} : (A / 2 ^ n * 2 ^ n).testBit q = (decide (n ≤ q) && A.testBit q) := by
  rw [← Nat.shiftRight_eq_div_pow, ← Nat.shiftLeft_eq, Nat.testBit_shiftLeft, Nat.testBit_shiftRight]
  by_cases h : n ≤ q
  · rw [show n + (q - n) = q by omega]
  · simp [h]
/-! the greatest number of a set that is so -/
def ri_mx (P : Nat → Bool) (sz : Nat → Nat) : Nat → Nat
  | 0 => 0
  | n + 1 => if P n = true ∧ ¬ sz n ≤ ri_mx P sz n then sz n else ri_mx P sz n
theorem ri_mx_skip {P : Nat → Bool} {sz : Nat → Nat} {x : Nat} : ∀ y, x ≤ y → (∀ b, x ≤ b → b < y → P b = false) → ri_mx P sz y = ri_mx P sz x := by
  intro y
  induction y with
  | zero => intro h _; rw [show x = 0 by omega]
  | succ y ih =>
    intro h hb
    by_cases e : x = y + 1
    · rw [e]
    · simp only [ri_mx]
      rw [hb y (by omega) (by omega), if_neg (fun z => absurd z.1 (by decide))]
      exact ih (by omega) (fun b h1 h2 => hb b h1 (by omega))
theorem ri_mx_c {P Q : Nat → Bool} {sz : Nat → Nat} (h : ∀ b, P b = Q b) : ∀ n, ri_mx P sz n = ri_mx Q sz n := by
  intro n
  induction n with
  | zero => rfl
  | succ n ih => simp only [ri_mx, ih, h]
theorem ri_mx_le {P : Nat → Bool} {sz : Nat → Nat} {B : Nat} (h : ∀ b, sz b ≤ B) : ∀ n, ri_mx P sz n ≤ B := by
  intro n
  induction n with
  | zero => exact Nat.zero_le _
  | succ n ih => simp only [ri_mx]; split
                 · exact h _
                 · exact ih
def ri_sz (R : Nat) (A : Nat) : Nat := ri_cn (fun q => A.testBit q) R
def ri_cl (F : Nat → Nat → Bool) (R A r : Nat) : Bool := A.testBit r && ri_ba (fun q => decide (r < q) && (A.testBit q && F r q)) R
def ri_pX (F : Nat → Nat → Bool) (R A : Nat) : Bool := !ri_ba (ri_cl F R A) R
def ri_bad (F : Nat → Nat → Bool) (R A r : Nat) : Bool := A.testBit r && ri_ba (fun q => decide (q ≠ r) && (A.testBit q && F r q)) R
theorem ri_pXY {F : Nat → Nat → Bool} (S : ∀ r q, r < R → q < R → F r q = F q r) (A : Nat) : ri_ba (ri_cl F R A) R = ri_ba (ri_bad F R A) R := by
  apply ri_beq
  rw [ri_ba_t, ri_ba_t]
  constructor
  · rintro ⟨r, hr, h⟩
    simp only [ri_cl, Bool.and_eq_true] at h
    obtain ⟨q, hq, h2⟩ := ri_ba_t.mp h.2
    simp only [Bool.and_eq_true, decide_eq_true_eq] at h2
    refine ⟨r, hr, ?_⟩
    simp only [ri_bad, Bool.and_eq_true]
    exact ⟨h.1, ri_ba_t.mpr ⟨q, hq, by simp only [Bool.and_eq_true, decide_eq_true_eq]; exact ⟨by omega, h2.2⟩⟩⟩
  · rintro ⟨r, hr, h⟩
    simp only [ri_bad, Bool.and_eq_true] at h
    obtain ⟨q, hq, h2⟩ := ri_ba_t.mp h.2
    simp only [Bool.and_eq_true, decide_eq_true_eq] at h2
    rcases Nat.lt_or_gt_of_ne h2.1 with z | z
    · refine ⟨q, hq, ?_⟩
      simp only [ri_cl, Bool.and_eq_true]
      exact ⟨h2.2.1, ri_ba_t.mpr ⟨r, hr, by simp only [Bool.and_eq_true, decide_eq_true_eq]; exact ⟨z, h.1, by rw [S q r hq hr]; exact h2.2.2⟩⟩⟩
    · refine ⟨r, hr, ?_⟩
      simp only [ri_cl, Bool.and_eq_true]
      exact ⟨h.1, ri_ba_t.mpr ⟨q, hq, by simp only [Bool.and_eq_true, decide_eq_true_eq]; exact ⟨z, h2.2⟩⟩⟩
theorem ri_clc {F : Nat → Nat → Bool} {A m : Nat} (hm : m < R) : (ri_bm (F m) R &&& (A / 2 ^ (m + 1) * 2 ^ (m + 1)) = 0) ↔ ri_ba (fun q => decide (m < q) && (A.testBit q && F m q)) R = false := by
  rw [ri_and0, ri_ba_f]
  constructor
  · intro h q hq
    have := h q
    rw [ri_bm_b, ri_hi, decide_eq_true hq, Bool.true_and] at this
    rw [show decide (m < q) = decide (m + 1 ≤ q) from rfl]
    revert this
    cases F m q <;> cases A.testBit q <;> cases decide (m + 1 ≤ q) <;> simp
  · intro h q
    rw [ri_bm_b, ri_hi]
    by_cases hq : q < R
    · have := h q hq
      rw [show decide (m < q) = decide (m + 1 ≤ q) from rfl] at this
      rw [decide_eq_true hq, Bool.true_and]
      revert this
      cases F m q <;> cases A.testBit q <;> cases decide (m + 1 ≤ q) <;> simp
    · simp [hq]
theorem rx_clash {post : Int32 → Prop} {F : Nat → Nat → Bool} {A : Nat} (hA : A < 2 ^ 16) (hR : R ≤ 16) (CB : ∀ r, r < R → cb r = nI (ri_bm (F r) R)) (h0 : (∀ r, r < R → ri_cl F R A r = false) → post (-2)) (h1 : ∀ r, r < R → ri_cl F R A r = true → post (nI r)) : wpX_clashingRouteIn post (sX J R fo ft ct ej ps sg rs rl sj se cb st wt hd lk hg un dn) (nI A) := by
  have key : ∀ i, i ≤ R → (∀ r, i ≤ r → r < R → ri_cl F R A r = false) → wX_clashingRouteIn_7 post (nI A) (nI J) (nI R) (ri_n fo) (ri_n ft) (ri_n ct) (ri_n ej) (ri_n ps) (ri_b sg) (ri_n rs) (ri_n rl) (ri_n sj) (ri_n se) cb (ri_b st) (ri_n wt) (ri_b hd) (ri_x lk) (ri_x hg) (ri_x un) (ri_n dn) (i + 1) (nI i + (-1)) := by
    intro i
    induction i with
    | zero =>
      intro _ hi
      exact br_t (by decide) (h0 (fun r hr => hi r (by omega) hr))
    | succ m ih =>
      intro hm hi
      rw [pk_m1]
      have hAm : A / 2 ^ (m + 1) * 2 ^ (m + 1) < 2 ^ 32 := by
        have := Nat.div_mul_le_self A (2 ^ (m + 1)); omega
      have hAm2 : A / 2 ^ m < 2 ^ 31 := by
        have := Nat.div_le_self A (2 ^ m); omega
      have hAm3 : A / 2 ^ (m + 1) < 2 ^ 31 := by
        have := Nat.div_le_self A (2 ^ (m + 1)); omega
      have hb : ri_bm (F m) R &&& (A / 2 ^ (m + 1) * 2 ^ (m + 1)) < 2 ^ 31 := by
        have := Nat.and_le_left (n := ri_bm (F m) R) (m := A / 2 ^ (m + 1) * 2 ^ (m + 1))
        have := ri_bm_lt (F m) R
        have := ri_p31 (n := R) (by omega)
        omega
      simp only [wX_clashingRouteIn_7]
      simp (disch := omega) only [nI_clamp, nI_1, ri_shr, ri_shl, CB, ri_and, ri_a1, ri_in, ri_gt0, ri_eq0, ri_tb, ri_clc]
      have nx : ri_cl F R A m = false → wX_clashingRouteIn_7 post (nI A) (nI J) (nI R) (ri_n fo) (ri_n ft) (ri_n ct) (ri_n ej) (ri_n ps) (ri_b sg) (ri_n rs) (ri_n rl) (ri_n sj) (ri_n se) cb (ri_b st) (ri_n wt) (ri_b hd) (ri_x lk) (ri_x hg) (ri_x un) (ri_n dn) (m + 1) (nI m + (-1)) := by
        intro e
        refine ih (by omega) (fun r h2 h3 => ?_)
        by_cases z : r = m
        · rw [z]; exact e
        · exact hi r (by omega) h3
      refine br_f (by omega) (nm_e ?_)
      simp (disch := omega) only [CB, ri_and, ri_eq0, ri_clc]
      refine br_c (fun z => nm_e (nx ?_)) (fun z => ⟨by omega, br_c (fun w => nm_e (nx ?_)) (fun w => h1 m (by omega) ?_)⟩)
      · simp only [ri_cl, z, Bool.false_and]
      · simp only [ri_cl, w, Bool.and_false]
      · rw [Bool.not_eq_false] at z w
        simp only [ri_cl, z, w, Bool.and_true]
  rw [wpX_clashingRouteIn]
  refine nm_r (e' := nI R + (-1)) (by grind) ⟨_, key R (Nat.le_refl _) (fun r h2 h3 => by omega)⟩
theorem rx_size {post : Int32 → Prop} {A : Nat} (hA : A < 2 ^ 16) (hR : R ≤ 16) (h : post (nI (ri_sz R A))) : wpX_countRoutesIn post (sX J R fo ft ct ej ps sg rs rl sj se cb st wt hd lk hg un dn) (nI A) := by
  refine ri_fo (fun n q => wX_countRoutesIn_4 post (nI A) (nI J) (nI R) (ri_n fo) (ri_n ft) (ri_n ct) (ri_n ej) (ri_n ps) (ri_b sg) (ri_n rs) (ri_n rl) (ri_n sj) (ri_n se) cb (ri_b st) (ri_n wt) (ri_b hd) (ri_x lk) (ri_x hg) (ri_x un) (ri_n dn) n (nI (ri_cn (fun q => A.testBit q) q)) (nI q)) R ?_ ?_
  · intro n
    simp only [wX_countRoutesIn_4]
    simp (disch := omega) only [nI_clamp, ri_n_ap, ri_b_ap, ri_x_ap, ri_y_ap, ri_in, ri_B0, ri_B1, ri_nm2, ri_nm1, ri_cx_z, ri_cx_n, ri_cy_n, ri_cy_g, ri_cx_e, ri_cy_e, nI_1, nI_add, ri_mul5, ri_mul5', ri_mul2, ri_mul2', ri_add5, ri_div2, ri_two, ri_01, ri_10, nI_eq, nI_leI, nI_ltI, forall_eq, not_false_eq_true, true_and, and_true, not_true_eq_false, false_implies, implies_true, true_implies, ri_le0, ri_ge0, ri_lt0, ri_gt0, ri_eq0, ri_le1, ri_ge1, ri_lt1, ri_gt1, ri_eq1, ri_le2, ri_ge2, ri_lt2, ri_gt2, ri_eq2, ri_le3, ri_ge3, ri_lt3, ri_gt3, ri_eq3, ri_le4, ri_ge4, ri_lt4, ri_gt4, ri_eq4, ri_le5, ri_ge5, ri_lt5, ri_gt5, ri_eq5, ri_le10, ri_ge10, ri_lt10, ri_gt10, ri_eq10, ri_le12, ri_ge12, ri_lt12, ri_gt12, ri_eq12, ri_le16, ri_ge16, ri_lt16, ri_gt16, ri_eq16, ri_le20, ri_ge20, ri_lt20, ri_gt20, ri_eq20, ri_le32, ri_ge32, ri_lt32, ri_gt32, ri_eq32, ri_le80, ri_ge80, ri_lt80, ri_gt80, ri_eq80]
    exact br_t (Nat.le_refl _) h
  · intro n q hq p
    have hAm2 : A / 2 ^ q < 2 ^ 31 := by
      have := Nat.div_le_self A (2 ^ q); omega
    simp only [wX_countRoutesIn_4]
    simp (disch := omega) only [nI_leI, ri_shr, ri_a1, nI_add, nI_1]
    refine br_f (by omega) (nm_r (congrArg nI ?_) (nm_e p))
    simp only [ri_cn]
    by_cases e : A.testBit q = true
    · rw [if_pos e, ri_tb1.mpr e]
    · rw [if_neg e, ri_tb.mpr (Bool.eq_false_iff.mpr e)]
theorem ri_pX_f {F : Nat → Nat → Bool} {A B r : Nat} (hr : r < R) (h : ri_cl F R A r = true) (e : B / 2 ^ r = A / 2 ^ r) : ri_pX F R B = false := by
  have t : ∀ q, r ≤ q → B.testBit q = A.testBit q := by
    intro q hq
    have w : ∀ C : Nat, C.testBit q = (C / 2 ^ r).testBit (q - r) := by
      intro C
      rw [← Nat.shiftRight_eq_div_pow, Nat.testBit_shiftRight, show r + (q - r) = q by omega]
    rw [w B, w A, e]
  simp only [ri_cl, Bool.and_eq_true] at h
  obtain ⟨q, hq, h2⟩ := ri_ba_t.mp h.2
  simp only [Bool.and_eq_true, decide_eq_true_eq] at h2
  have : ri_ba (ri_cl F R B) R = true := by
    refine ri_ba_t.mpr ⟨r, hr, ?_⟩
    simp only [ri_cl, Bool.and_eq_true]
    refine ⟨by rw [t r (Nat.le_refl _)]; exact h.1, ri_ba_t.mpr ⟨q, hq, ?_⟩⟩
    simp only [Bool.and_eq_true, decide_eq_true_eq]
    exact ⟨h2.1, by rw [t q (by omega)]; exact h2.2.1, h2.2.2⟩
  rw [ri_pX, this]; rfl
theorem ri_orr {A r : Nat} : (A ||| (2 ^ r - 1)) / 2 ^ r = A / 2 ^ r := by
  rw [← Nat.shiftRight_eq_div_pow, ← Nat.shiftRight_eq_div_pow, Nat.shiftRight_or_distrib]
  have : (2 ^ r - 1) >>> r = 0 := by
    rw [Nat.shiftRight_eq_div_pow]
    exact Nat.div_eq_of_lt (by have := Nat.two_pow_pos r; omega)
  rw [this, Nat.or_zero]
theorem rx_largest {post : Int32 → Prop} {F : Nat → Nat → Bool} (hR : R ≤ 16) (CB : ∀ r, r < R → cb r = nI (ri_bm (F r) R)) (h : post (nI (ri_mx (ri_pX F R) (ri_sz R) (2 ^ R)))) : wpX_largest post (sX J R fo ft ct ej ps sg rs rl sj se cb st wt hd lk hg un dn) := by
  have hP : 2 ^ R ≤ 2 ^ 16 := Nat.pow_le_pow_right (by decide) hR
  have hmx : ∀ n, ri_mx (ri_pX F R) (ri_sz R) n ≤ 16 := ri_mx_le (fun b => by have := ri_cn_n (fun q => b.testBit q) R; unfold ri_sz; omega)
  have key : ∀ d x, 2 ^ R - x ≤ d → x ≤ 2 ^ R → wX_largest_4 post (nI J) (nI R) (ri_n fo) (ri_n ft) (ri_n ct) (ri_n ej) (ri_n ps) (ri_b sg) (ri_n rs) (ri_n rl) (ri_n sj) (ri_n se) cb (ri_b st) (ri_n wt) (ri_b hd) (ri_x lk) (ri_x hg) (ri_x un) (ri_n dn) (d + 1) (nI (ri_mx (ri_pX F R) (ri_sz R) x)) (nI x) := by
    intro d
    induction d with
    | zero =>
      intro x h1 h2
      have e : x = 2 ^ R := by omega
      subst e
      simp only [wX_largest_4]
      simp (disch := omega) only [ri_sh1, nI_leI]
      exact br_t (Nat.le_refl _) h
    | succ d ih =>
      intro x h1 h2
      generalize hn : d + 1 = n at ih ⊢
      simp only [wX_largest_4]
      simp (disch := omega) only [ri_sh1, nI_leI]
      refine br_c (fun z => ?_) (fun z => ?_)
      · have e : x = 2 ^ R := by omega
        subst e
        exact h
      · have hx : x < 2 ^ 16 := by omega
        have hm := hmx x
        have hs : ri_sz R x ≤ 16 := by have := ri_cn_n (fun q => x.testBit q) R; unfold ri_sz; omega
        refine rx_clash hx hR CB (fun c => ?_) (fun r hr c => ?_)
        · refine br_t rfl (rx_size hx hR ?_)
          have pt : ri_pX F R x = true := by rw [ri_pX, ri_ba_f.mpr c]; rfl
          have p := ih (x + 1) (by omega) (by omega)
          simp only [ri_mx, pt, true_and] at p
          simp (disch := omega) only [nI_leI, nI_1]
          refine br_c (fun y => ?_) (fun y => ?_)
          · rw [if_neg (fun w => w y)] at p; exact nm_e p
          · rw [if_pos y] at p; exact nm_e p
        · have hr1 := ri_p31 (n := r) (by omega)
          have hr2 := Nat.two_pow_pos r
          have hr3 : 2 ^ r ≤ 2 ^ R := Nat.pow_le_pow_right (by decide) (by omega)
          have hlt : x ||| (2 ^ r - 1) < 2 ^ R := Nat.or_lt_two_pow (by omega) (by omega)
          have hge : x ≤ x ||| (2 ^ r - 1) := Nat.left_le_or
          have p := ih ((x ||| (2 ^ r - 1)) + 1) (by omega) (by omega)
          rw [ri_mx_skip (x := x) _ (by omega) (fun b h3 h4 => ri_pX_f hr c (Nat.le_antisymm (Nat.le_trans (Nat.div_le_div_right (by omega)) (Nat.le_of_eq ri_orr)) (Nat.div_le_div_right h3)))] at p
          refine br_f (ri_m2 (by omega)) ?_
          simp (disch := omega) only [ri_sh1, ri_sub1, ri_or, nI_1]
          exact nm_e (nm_r (nI_1 _) p)
  exact ⟨_, key (2 ^ R) 0 (Nat.sub_le _ _) (Nat.zero_le _)⟩
/-! Y -/
def ri_riv (F : Nat → Nat → Bool) (r q : Nat) : Bool := decide (q ≠ r) && F r q
theorem ry_against {post : Int32 → Prop} {r : Nat} (hr : r < R) (hR : R ≤ 16) (HJ : ri_J J fo ft ct ej) (RL : ∀ r, rl r ≤ 5) (SJ : ∀ i, sj i < 12) (SE : ∀ i, se i < 20) (SJr : ∀ r, r < R → ∀ k, k < rl r → sj (5 * r + k) < J) (h : post (nI (ri_bm (ri_riv (ri_row fo ft rl sj se) r) R))) : wpY_against post (sY J R fo ft sg ps rs rl sj se st wt hd lk hg un dn rv mt nx) (nI r) := by
  refine ri_fo (fun n q => wY_against_4 post (nI r) (nI J) (nI R) (ri_n fo) (ri_n ft) (ri_b sg) (ri_n ps) (ri_n rs) (ri_n rl) (ri_n sj) (ri_n se) (ri_b st) (ri_n wt) (ri_b hd) (ri_x lk) (ri_y hg) (ri_y un) (ri_n dn) rv mt nx n (nI (ri_bm (ri_riv (ri_row fo ft rl sj se) r) q)) (nI q)) R ?_ ?_
  · intro n
    simp only [wY_against_4]
    simp (disch := omega) only [nI_clamp, ri_n_ap, ri_b_ap, ri_x_ap, ri_y_ap, ri_in, ri_B0, ri_B1, ri_nm2, ri_nm1, ri_cx_z, ri_cx_n, ri_cy_n, ri_cy_g, ri_cx_e, ri_cy_e, nI_1, nI_add, ri_mul5, ri_mul5', ri_mul2, ri_mul2', ri_add5, ri_div2, ri_two, ri_01, ri_10, nI_eq, nI_leI, nI_ltI, forall_eq, not_false_eq_true, true_and, and_true, not_true_eq_false, false_implies, implies_true, true_implies, ri_le0, ri_ge0, ri_lt0, ri_gt0, ri_eq0, ri_le1, ri_ge1, ri_lt1, ri_gt1, ri_eq1, ri_le2, ri_ge2, ri_lt2, ri_gt2, ri_eq2, ri_le3, ri_ge3, ri_lt3, ri_gt3, ri_eq3, ri_le4, ri_ge4, ri_lt4, ri_gt4, ri_eq4, ri_le5, ri_ge5, ri_lt5, ri_gt5, ri_eq5, ri_le10, ri_ge10, ri_lt10, ri_gt10, ri_eq10, ri_le12, ri_ge12, ri_lt12, ri_gt12, ri_eq12, ri_le16, ri_ge16, ri_lt16, ri_gt16, ri_eq16, ri_le20, ri_ge20, ri_lt20, ri_gt20, ri_eq20, ri_le32, ri_ge32, ri_lt32, ri_gt32, ri_eq32, ri_le80, ri_ge80, ri_lt80, ri_gt80, ri_eq80]
    exact br_t (Nat.le_refl _) h
  · intro n q hq p
    have hb := ri_bm_lt (ri_riv (ri_row fo ft rl sj se) r) q
    have hp := ri_p31 (n := q) (by omega)
    simp only [wY_against_4]
    simp (disch := omega) only [nI_leI, nI_eq, nI_1, ri_sh1, ri_or]
    refine br_f (by omega) (br_c (fun z => ?_) (fun z => ry_cf hr hq hR HJ RL SJ SE SJr ?_))
    · rw [← ri_bm_no (show ri_riv (ri_row fo ft rl sj se) r q = false by simp [ri_riv, z])] at p
      exact nm_e p
    · simp only [ri_B0]
      refine br_c (fun y => ?_) (fun y => ?_)
      · rw [← ri_bm_no (show ri_riv (ri_row fo ft rl sj se) r q = false by simp [ri_riv, y])] at p
        exact nm_e p
      · rw [Bool.not_eq_false] at y
        rw [ri_bm_or (show ri_riv (ri_row fo ft rl sj se) r q = true by simp [ri_riv, y, z])]
        exact nm_e (nm_e p)
def ri_rvs (F : Nat → Nat → Bool) (R : Nat) (rv : Nat → Int32) : Nat → Nat → Int32
  | 0 => rv
  | r + 1 => upd (ri_rvs F R rv r) r (nI (ri_bm (ri_riv F r) R))
theorem ri_rvs_r {F : Nat → Nat → Bool} : ∀ n r, r < n → ri_rvs F R rv n r = nI (ri_bm (ri_riv F r) R) := by
  intro n
  induction n with
  | zero => intro r h; omega
  | succ n ih =>
    intro r h
    by_cases e : r = n
    · subst e; exact pk_us
    · exact (pk_un e).trans (ih r (by omega))
def ri_cv (F : Nat → Nat → Bool) (R A : Nat) : Nat → Int32
  | 0 => 0
  | i + 1 => if A.testBit i = true then (if ri_bad F R A i = true then -100 else ri_cv F R A i + 1) else ri_cv F R A i
theorem ri_cv_ok {F : Nat → Nat → Bool} {A : Nat} : ∀ i, (∀ r, r < i → ri_bad F R A r = false) → ri_cv F R A i = nI (ri_cn (fun q => A.testBit q) i) := by
  intro i
  induction i with
  | zero => intro _; rfl
  | succ i ih =>
    intro h
    simp only [ri_cv, ri_cn]
    rw [h i (by omega), ih (fun r hr => h r (by omega))]
    split
    · rw [if_neg (by decide), nI_1]
    · rfl
theorem ri_cv_bad {F : Nat → Nat → Bool} {A : Nat} : ∀ i, (∃ r, r < i ∧ ri_bad F R A r = true) → ∃ m, m ≤ i ∧ ri_cv F R A i = nI m + (-100) := by
  intro i
  induction i with
  | zero => rintro ⟨r, h, _⟩; omega
  | succ i ih =>
    rintro ⟨r, hr, hb⟩
    simp only [ri_cv]
    by_cases z : A.testBit i = true
    · rw [if_pos z]
      by_cases y : ri_bad F R A i = true
      · rw [if_pos y]; exact ⟨0, by omega, rfl⟩
      · rw [if_neg y]
        obtain ⟨m, h1, h2⟩ := ih ⟨r, by
          by_cases e : r = i
          · rw [e] at hb; exact absurd hb y
          · omega, hb⟩
        refine ⟨m + 1, by omega, ?_⟩
        rw [h2, ← nI_1]; grind
    · rw [if_neg z]
      have y : ¬ ri_bad F R A i = true := by
        intro w; simp only [ri_bad, Bool.and_eq_true] at w; exact z w.1
      obtain ⟨m, h1, h2⟩ := ih ⟨r, by
          by_cases e : r = i
          · rw [e] at hb; exact absurd hb y
          · omega, hb⟩
      exact ⟨m, by omega, h2⟩
theorem ri_neg {m k : Nat} (hm : m ≤ 16) (hk : k < 2 ^ 31) : nI m + (-100) ≤ nI k := by
  have e : nI m + (-100) = nI m - nI 100 := by
    rw [Int32.sub_eq_add_neg]; rfl
  have h1 := pk_sneg (a := m) (b := 100) (by omega) (by omega)
  rw [e]
  exact Int32.le_of_lt (Int32.lt_of_lt_of_le h1 (nI_pos' hk))
theorem ri_badc {F : Nat → Nat → Bool} {A i : Nat} (hi : i < R) (z : A.testBit i = true) : (ri_bm (ri_riv F i) R &&& A = 0) ↔ ri_bad F R A i = false := by
  rw [ri_bad, z, Bool.true_and, ri_and0, ri_ba_f]
  constructor
  · intro h q hq
    have := h q
    rw [ri_bm_b, decide_eq_true hq, Bool.true_and, ri_riv] at this
    revert this
    cases F i q <;> cases A.testBit q <;> cases decide (q ≠ i) <;> simp
  · intro h q
    rw [ri_bm_b, ri_riv]
    by_cases hq : q < R
    · have := h q hq
      rw [decide_eq_true hq, Bool.true_and]
      revert this
      cases F i q <;> cases A.testBit q <;> cases decide (q ≠ i) <;> simp
    · simp [hq]
theorem ry_lgI {post : Int32 → SY → Prop} {J31 : Int32 → Int32 → Prop} {F : Nat → Nat → Bool} {A : Nat} {x1 : Int32} (hA : A < 2 ^ 16) (hR : R ≤ 16) (RV : ∀ r, r < R → rv r = nI (ri_bm (ri_riv F r) R)) (h : (ri_cv F R A R ≤ x1 → J31 x1 (nI (A + 1))) ∧ (¬ ri_cv F R A R ≤ x1 → J31 (ri_cv F R A R) (nI (A + 1)))) : ∃ n, wY_largest_46 post J31 x1 (nI A) (nI J) (nI R) (ri_n fo) (ri_n ft) (ri_b sg) (ri_n ps) (ri_n rs) (ri_n rl) (ri_n sj) (ri_n se) (ri_b st) (ri_n wt) (ri_b hd) (ri_x lk) (ri_y hg) (ri_y un) (ri_n dn) rv mt nx n 0 0 := by
  refine ri_fo (fun n i => wY_largest_46 post J31 x1 (nI A) (nI J) (nI R) (ri_n fo) (ri_n ft) (ri_b sg) (ri_n ps) (ri_n rs) (ri_n rl) (ri_n sj) (ri_n se) (ri_b st) (ri_n wt) (ri_b hd) (ri_x lk) (ri_y hg) (ri_y un) (ri_n dn) rv mt nx n (ri_cv F R A i) (nI i)) R ?_ ?_
  · intro n
    simp only [wY_largest_46]
    simp (disch := omega) only [nI_leI, nI_1]
    exact br_t (Nat.le_refl _) ⟨fun z => nm_e (h.1 z), fun z => nm_e (h.2 z)⟩
  · intro n i hi p
    have hAm2 : A / 2 ^ i < 2 ^ 31 := by
      have := Nat.div_le_self A (2 ^ i); omega
    have hb : ri_bm (ri_riv F i) R &&& A < 2 ^ 31 := by
      have := Nat.and_le_right (n := ri_bm (ri_riv F i) R) (m := A)
      omega
    simp only [ri_cv] at p
    simp only [wY_largest_46]
    simp (disch := omega) only [nI_leI, nI_1, ri_shr, ri_a1, ri_eq1, ri_tb1, nI_clamp, RV, ri_and, ri_in, ri_eq0]
    refine br_f (by omega) (br_c (fun z => ⟨by omega, ?_⟩) (fun z => ?_))
    · rw [if_pos z] at p
      rw [ri_badc hi z]
      refine br_c (fun y => ?_) (fun y => ?_)
      · rw [if_neg (by rw [y]; decide)] at p; exact nm_e (nm_e p)
      · rw [Bool.not_eq_false] at y; rw [if_pos y] at p; exact nm_e p
    · rw [if_neg z] at p; exact nm_e p
theorem ry_lgM {post : Int32 → SY → Prop} {F : Nat → Nat → Bool} (hR : R ≤ 16) (S : ∀ r q, r < R → q < R → F r q = F q r) (RV : ∀ r, r < R → rv r = nI (ri_bm (ri_riv F r) R)) (h : post (nI (ri_mx (ri_pX F R) (ri_sz R) (2 ^ R))) (sY J R fo ft sg ps rs rl sj se st wt hd lk hg un dn rv mt nx)) : ∃ n, wY_largest_31 post (nI J) (nI R) (ri_n fo) (ri_n ft) (ri_b sg) (ri_n ps) (ri_n rs) (ri_n rl) (ri_n sj) (ri_n se) (ri_b st) (ri_n wt) (ri_b hd) (ri_x lk) (ri_y hg) (ri_y un) (ri_n dn) rv mt nx n 0 0 := by
  have hP : 2 ^ R ≤ 2 ^ 16 := Nat.pow_le_pow_right (by decide) hR
  have hmx : ∀ n, ri_mx (ri_pX F R) (ri_sz R) n ≤ 16 := ri_mx_le (fun b => by have := ri_cn_n (fun q => b.testBit q) R; unfold ri_sz; omega)
  refine ri_fo (fun n x => wY_largest_31 post (nI J) (nI R) (ri_n fo) (ri_n ft) (ri_b sg) (ri_n ps) (ri_n rs) (ri_n rl) (ri_n sj) (ri_n se) (ri_b st) (ri_n wt) (ri_b hd) (ri_x lk) (ri_y hg) (ri_y un) (ri_n dn) rv mt nx n (nI (ri_mx (ri_pX F R) (ri_sz R) x)) (nI x)) (2 ^ R) ?_ ?_
  · intro n
    simp only [wY_largest_31]
    simp (disch := omega) only [ri_sh1, nI_leI]
    exact br_t (Nat.le_refl _) h
  · intro n x hx p
    simp only [wY_largest_31]
    simp (disch := omega) only [ri_sh1, nI_leI]
    refine br_f (by omega) (ry_lgI (by omega) hR RV ?_)
    have hm := hmx x
    have hs : ri_sz R x ≤ 16 := by have := ri_cn_n (fun q => x.testBit q) R; unfold ri_sz; omega
    simp only [ri_mx] at p
    cases e : ri_pX F R x with
    | true =>
      have c : ri_ba (ri_bad F R x) R = false := by
        rw [← ri_pXY S]; rw [ri_pX] at e
        cases w : ri_ba (ri_cl F R x) R with
        | false => rfl
        | true => rw [w] at e; exact absurd e (by decide)
      rw [ri_cv_ok R (ri_ba_f.mp c)]
      rw [e] at p
      simp only [true_and] at p
      change (nI (ri_sz R x) ≤ _ → _) ∧ (¬ nI (ri_sz R x) ≤ _ → _)
      simp (disch := omega) only [nI_leI]
      refine br_c (fun y => ?_) (fun y => ?_)
      · rw [if_neg (fun w => w y)] at p; exact p
      · rw [if_pos y] at p; exact p
    | false =>
      have c : ri_ba (ri_bad F R x) R = true := by
        rw [← ri_pXY S]; rw [ri_pX] at e
        cases w : ri_ba (ri_cl F R x) R with
        | true => rfl
        | false => rw [w] at e; exact absurd e (by decide)
      obtain ⟨m, h1, h2⟩ := ri_cv_bad R (ri_ba_t.mp c)
      rw [e, if_neg (fun w => absurd w.1 (by decide))] at p
      rw [h2]
      exact br_t (ri_neg (by omega) (by omega)) p
theorem ri_br_s {j i : Nat} : ri_br fo ft j i = ri_br fo ft i j := by
  apply ri_beq
  simp only [ri_br, ne_eq, Bool.and_eq_true, Bool.or_eq_true, decide_eq_true_eq]
  grind
theorem ri_row_s (r q : Nat) : ri_row fo ft rl sj se r q = ri_row fo ft rl sj se q r := by
  have w : ∀ r q, ri_cf fo ft rl sj se r q = true → ri_cf fo ft rl sj se q r = true := by
    intro r q h
    obtain ⟨i, hi, h2⟩ := ri_ba_t.mp h
    obtain ⟨k, hk, h3⟩ := ri_ba_t.mp h2
    refine ri_ba_t.mpr ⟨k, hk, ri_ba_t.mpr ⟨i, hi, ?_⟩⟩
    simp only [ri_cf1, Bool.or_eq_true, decide_eq_true_eq] at h3 ⊢
    rcases h3 with z | z
    · exact Or.inl z.symm
    · rw [ri_br_s] at z; exact Or.inr z
  have e : ri_cf fo ft rl sj se r q = ri_cf fo ft rl sj se q r := ri_beq ⟨w r q, w q r⟩
  rw [ri_row, ri_row, e]
  congr 1
  exact decide_eq_decide.mpr eq_comm
theorem ry_largest {post : Int32 → SY → Prop} (hR : R ≤ 16) (HJ : ri_J J fo ft ct ej) (RL : ∀ r, rl r ≤ 5) (SJ : ∀ i, sj i < 12) (SE : ∀ i, se i < 20) (SJr : ∀ r, r < R → ∀ k, k < rl r → sj (5 * r + k) < J) (h : ∀ rv', post (nI (ri_mx (ri_pX (ri_row fo ft rl sj se) R) (ri_sz R) (2 ^ R))) (sY J R fo ft sg ps rs rl sj se st wt hd lk hg un dn rv' mt nx)) : wpY_largest post (sY J R fo ft sg ps rs rl sj se st wt hd lk hg un dn rv mt nx) := by
  refine ri_fo (fun n r => wY_largest_4 post 0 (nI J) (nI R) n (nI r) (ri_n fo) (ri_n ft) (ri_b sg) (ri_n ps) (ri_n rs) (ri_n rl) (ri_n sj) (ri_n se) (ri_b st) (ri_n wt) (ri_b hd) (ri_x lk) (ri_y hg) (ri_y un) (ri_n dn) (ri_rvs (ri_row fo ft rl sj se) R rv r) mt nx) R ?_ ?_
  · intro n
    simp only [wY_largest_4]
    simp (disch := omega) only [nI_leI]
    exact br_t (Nat.le_refl _) (ry_lgM hR (fun r q _ _ => ri_row_s r q) (fun r hr => ri_rvs_r R r hr) (h _))
  · intro n r hr p
    simp only [wY_largest_4]
    simp (disch := omega) only [nI_leI, nI_clamp, ri_in, nI_1]
    exact br_f (by omega) (ry_against hr hR HJ RL SJ SE SJr ⟨by omega, nm_e (nm_e p)⟩)
end
end
section
section
variable {J R : Nat} {fo ft ct ej ps : Nat → Nat} {sg : Nat → Bool} {rs rl sj se : Nat → Nat} {cb : Nat → Int32} {st : Nat → Bool} {wt : Nat → Nat} {hd : Nat → Bool} {lk hg un dn : Nat → Nat} {rv mt nx : Nat → Int32}
def ri_las (rl se : Nat → Nat) (r : Nat) : Nat := se (5 * r + rl r - 1)
def ri_ends (R : Nat) (rs rl se : Nat → Nat) (m : Nat → Bool) (n e : Nat) : Bool := ri_ba (fun r => m (rs r) && decide (ri_op (ri_las rl se r) = e)) n
def ri_stp (R : Nat) (rs rl se : Nat → Nat) (m : Nat → Bool) (e : Nat) : Bool := m e || ri_ends R rs rl se m R e
def ri_M (R : Nat) (rs rl se : Nat → Nat) (a : Nat) : Nat → Nat → Bool
  | 0 => fun e => decide (e = a)
  | k + 1 => ri_stp R rs rl se (ri_M R rs rl se a k)
theorem ri_bm_e {f : Nat → Bool} {n e : Nat} (he : e < n) : ri_bm f n ||| 2 ^ e = ri_bm (fun x => f x || decide (e = x)) n := by
  apply Nat.eq_of_testBit_eq
  intro q
  rw [Nat.testBit_or, ri_bm_b, ri_bm_b, Nat.testBit_two_pow]
  by_cases h : q < n
  · simp [h]
  · simp [h]; omega
theorem ri_bm_oo {f g : Nat → Bool} {n : Nat} : ri_bm f n ||| ri_bm g n = ri_bm (fun x => f x || g x) n := by
  apply Nat.eq_of_testBit_eq
  intro q
  rw [Nat.testBit_or, ri_bm_b, ri_bm_b, ri_bm_b]
  by_cases h : q < n <;> simp [h]
theorem ri_bm_t {f : Nat → Bool} {n q : Nat} (h : q < n) : (ri_bm f n / 2 ^ q % 2 = 0) ↔ f q = false := by
  rw [ri_tb, ri_bm_b, decide_eq_true h, Bool.true_and]
theorem ri_bm_1 {a n : Nat} (h : a < n) : 2 ^ a = ri_bm (fun e => decide (e = a)) n := by
  apply Nat.eq_of_testBit_eq
  intro q
  rw [ri_bm_b, Nat.testBit_two_pow]
  by_cases z : a = q
  · subst z; simp [h]
  · simp [z, Ne.symm z]
def ri_fnd (m : Nat → Bool) (s : Nat) : Bool := m (2 * s) || m (2 * s + 1)
theorem ri_bm_3 {f : Nat → Bool} {n s : Nat} (h : 2 * s + 1 < n) : (ri_bm f n / 2 ^ (2 * s) % 4 = 0) ↔ ri_fnd f s = false := by
  have e1 := ri_bm_t (f := f) (n := n) (q := 2 * s) (by omega)
  have e2 := ri_bm_t (f := f) (n := n) (q := 2 * s + 1) h
  rw [Nat.pow_succ, ← Nat.div_div_eq_div_mul] at e2
  simp only [ri_fnd, Bool.or_eq_false_iff, ← e1, ← e2]
  omega
theorem rx_ends {post : Int32 → Prop} {m : Nat → Bool} (hR : R ≤ 16) (RS : ∀ r, rs r < 20) (RL : ∀ r, rl r ≤ 5) (R1 : ∀ r, r < R → 1 ≤ rl r) (SE : ∀ i, se i < 20) (h : post (nI (ri_bm (ri_ends R rs rl se m R) 20))) : wpX_endsOneRouteFrom post (sX J R fo ft ct ej ps sg rs rl sj se cb st wt hd lk hg un dn) (nI (ri_bm m 20)) := by
  have hz : ri_bm (ri_ends R rs rl se m 0) 20 = 0 := by
    apply Nat.eq_of_testBit_eq
    intro q
    rw [ri_bm_b, Nat.zero_testBit]
    simp [ri_ends, ri_ba]
  have W := ri_fo (fun n r => wX_endsOneRouteFrom_4 post (nI (ri_bm m 20)) (nI J) (nI R) (ri_n fo) (ri_n ft) (ri_n ct) (ri_n ej) (ri_n ps) (ri_b sg) (ri_n rs) (ri_n rl) (ri_n sj) (ri_n se) cb (ri_b st) (ri_n wt) (ri_b hd) (ri_x lk) (ri_x hg) (ri_x un) (ri_n dn) n (nI (ri_bm (ri_ends R rs rl se m r) 20)) (nI r)) R ?_ ?_
  · rw [hz] at W; exact W
  · intro n
    simp only [wX_endsOneRouteFrom_4]
    simp (disch := omega) only [nI_leI]
    exact br_t (Nat.le_refl _) h
  · intro n r hr p
    have h1 := RS r
    have h2 := RL r
    have h3 := R1 r hr
    have h4 := SE (5 * r + rl r - 1)
    have h5 := ri_op_lt h4
    have h6 := ri_bm_lt m 20
    have h7 := ri_bm_lt (ri_ends R rs rl se m r) 20
    have h8 : ri_bm m 20 / 2 ^ rs r < 2 ^ 31 := by
      have := Nat.div_le_self (ri_bm m 20) (2 ^ rs r); omega
    have h9 := ri_p31 (n := ri_op (se (5 * r + rl r - 1))) (by omega)
    simp only [wX_endsOneRouteFrom_4]
    simp (disch := omega) only [nI_leI, nI_clamp, ri_n_ap, ri_in, ri_shr, ri_a1, ri_eq0, ri_bm_t, nI_1, ri_mul5, nI_add, ri_sub1, ri_op_x, ri_sh1]
    refine br_f (by omega) ⟨by omega, br_c (fun z => ?_) (fun z => ⟨by omega, by omega, nm_e ?_⟩)⟩
    · rw [show ri_ends R rs rl se m (r + 1) = ri_ends R rs rl se m r from by
        funext e; simp only [ri_ends, ri_ba, z, Bool.false_and, Bool.or_false]] at p
      exact nm_e p
    · rw [Bool.not_eq_false] at z
      simp (disch := omega) only [ri_op_x, ri_sh1, ri_or, ri_bm_e]
      rw [show ri_ends R rs rl se m (r + 1) = (fun x => ri_ends R rs rl se m r x || decide (ri_op (se (5 * r + rl r - 1)) = x)) from by
        funext e; simp only [ri_ends, ri_ba, z, Bool.true_and]; rfl] at p
      exact nm_e (nm_e p)
def ri_ans (v : Nat) : Int32 := if v = 0 then -2 else nI v
theorem rx_hops {post : Int32 → Prop} {a s : Nat} (ha : a < 20) (hs : s < 10) (hR : R ≤ 16) (RS : ∀ r, rs r < 20) (RL : ∀ r, rl r ≤ 5) (R1 : ∀ r, r < R → 1 ≤ rl r) (SE : ∀ i, se i < 20) (h0 : a / 2 = s → post 0) (h : a / 2 ≠ s → post (ri_ans (ri_ff (fun i => ri_fnd (ri_M R rs rl se a (i + 1)) s) 16))) : wpX_hops post (sX J R fo ft ct ej ps sg rs rl sj se cb st wt hd lk hg un dn) (nI a) (nI s) := by
  simp only [wpX_hops]
  refine rx_isE1 ha (br_f (by decide) (rx_isS1 hs (br_f (by decide) ⟨by decide, ?_⟩)))
  simp (disch := omega) only [ri_div2, nI_eq, ri_sh1]
  refine br_c h0 (fun z => nm_e ?_)
  have hp := h z
  have W := ri_sf (fun n i => wX_hops_34 post (nI s) (nI J) (nI R) (ri_n fo) (ri_n ft) (ri_n ct) (ri_n ej) (ri_n ps) (ri_b sg) (ri_n rs) (ri_n rl) (ri_n sj) (ri_n se) cb (ri_b st) (ri_n wt) (ri_b hd) (ri_x lk) (ri_x hg) (ri_x un) (ri_n dn) n (nI (ri_bm (ri_M R rs rl se a i) 20)) (nI (i + 1))) (fun v => post (ri_ans v)) (fun i => ri_fnd (ri_M R rs rl se a (i + 1)) s) 16 hp ?_ ?_ ?_
  · rw [show ri_M R rs rl se a 0 = (fun e => decide (e = a)) from rfl, ← ri_bm_1 ha] at W
    exact W
  · intro n p
    exact br_t (nI_lt (a := 16) (b := 17) (by omega) (by omega)) p
  · intro n i hi hf p
    have h6 := ri_bm_lt (ri_M R rs rl se a i) 20
    have h7 := ri_bm_lt (ri_ends R rs rl se (ri_M R rs rl se a i) R) 20
    have h8 : ri_bm (ri_M R rs rl se a (i + 1)) 20 / 2 ^ (2 * s) < 2 ^ 31 := by
      have := Nat.div_le_self (ri_bm (ri_M R rs rl se a (i + 1)) 20) (2 ^ (2 * s))
      have := ri_bm_lt (ri_M R rs rl se a (i + 1)) 20
      omega
    have h9 := ri_bm_lt (ri_M R rs rl se a (i + 1)) 20
    simp only [wX_hops_34]
    refine br_f (nI_nlt (b := i + 1) (a := 16) (by omega) (by omega)) (rx_ends hR RS RL R1 SE ?_)
    rw [ri_or (by omega) (by omega), ri_bm_oo]
    change ∀ x, x = nI (ri_bm (ri_M R rs rl se a (i + 1)) 20) → _
    refine nm_e ?_
    simp (disch := omega) only [ri_mul2', ri_shr, ri_a3, ri_eq0, ri_bm_3]
    exact br_f (by rw [hf]; decide) p
  · intro n i hi hf p
    have h6 := ri_bm_lt (ri_M R rs rl se a i) 20
    have h7 := ri_bm_lt (ri_ends R rs rl se (ri_M R rs rl se a i) R) 20
    have h8 : ri_bm (ri_M R rs rl se a (i + 1)) 20 / 2 ^ (2 * s) < 2 ^ 31 := by
      have := Nat.div_le_self (ri_bm (ri_M R rs rl se a (i + 1)) 20) (2 ^ (2 * s))
      have := ri_bm_lt (ri_M R rs rl se a (i + 1)) 20
      omega
    have h9 := ri_bm_lt (ri_M R rs rl se a (i + 1)) 20
    simp only [wX_hops_34]
    refine br_f (nI_nlt (b := i + 1) (a := 16) (by omega) (by omega)) (rx_ends hR RS RL R1 SE ?_)
    rw [ri_or (by omega) (by omega), ri_bm_oo]
    change ∀ x, x = nI (ri_bm (ri_M R rs rl se a (i + 1)) 20) → _
    refine nm_e ?_
    simp (disch := omega) only [ri_mul2', ri_shr, ri_a3, ri_eq0, ri_bm_3]
    exact br_t hf (nm_r (nI_1 _) p)
/-! the pure part -/
def ri_fy (R : Nat) (rs rl se : Nat → Nat) (m : Nat → Bool) (s n : Nat) : Bool := ri_ba (fun r => m (rs r) && decide (ri_las rl se r / 2 = s)) n
theorem ri_cn_mm {f g : Nat → Bool} : ∀ {n : Nat}, (∀ i, i < n → f i = true → g i = true) → ri_cn f n ≤ ri_cn g n ∧ (ri_cn f n = ri_cn g n → ∀ i, i < n → g i = f i) := by
  intro n
  induction n with
  | zero => intro _; exact ⟨Nat.le_refl _, fun _ i hi => by omega⟩
  | succ n ih =>
    intro h
    obtain ⟨h1, h2⟩ := ih (fun i hi => h i (by omega))
    have h3 := h n (by omega)
    simp only [ri_cn]
    cases ef : f n with
    | true =>
      rw [h3 ef]
      refine ⟨by omega, fun e i hi => ?_⟩
      by_cases z : i = n
      · rw [z, ef, h3 ef]
      · exact h2 (by omega) i (by omega)
    | false =>
      cases eg : g n with
      | true => exact ⟨by simp; omega, fun e => by simp at e; omega⟩
      | false =>
        refine ⟨by omega, fun e i hi => ?_⟩
        by_cases z : i = n
        · rw [z, ef, eg]
        · exact h2 (by omega) i (by omega)
theorem ri_stab {a : Nat} (k : Nat) : ri_M R rs rl se a (k + 1) = ri_M R rs rl se a k ∨ k + 1 ≤ ri_cn (fun r => ri_M R rs rl se a k (rs r)) R := by
  induction k with
  | zero =>
    by_cases z : 0 + 1 ≤ ri_cn (fun r => ri_M R rs rl se a 0 (rs r)) R
    · exact Or.inr z
    · left
      funext e
      have n0 : ∀ r, r < R → ri_M R rs rl se a 0 (rs r) = false := by
        intro r hr
        cases y : ri_M R rs rl se a 0 (rs r) with
        | false => rfl
        | true => have := ri_cn_l (f := fun r => ri_M R rs rl se a 0 (rs r)) hr y; omega
      have : ri_ends R rs rl se (ri_M R rs rl se a 0) R e = false := by
        refine ri_ba_f.mpr (fun r hr => ?_)
        rw [n0 r hr, Bool.false_and]
      show (ri_M R rs rl se a 0 e || ri_ends R rs rl se (ri_M R rs rl se a 0) R e) = _
      rw [this, Bool.or_false]
  | succ k ih =>
    rcases ih with ih | ih
    · left
      show ri_stp R rs rl se (ri_M R rs rl se a (k + 1)) = _
      rw [ih]
      exact ih
    · have mono : ∀ r, r < R → ri_M R rs rl se a k (rs r) = true → ri_M R rs rl se a (k + 1) (rs r) = true := by
        intro r _ y
        show (ri_M R rs rl se a k (rs r) || _) = true
        rw [y, Bool.true_or]
      obtain ⟨h1, h2⟩ := ri_cn_mm (f := fun r => ri_M R rs rl se a k (rs r)) (g := fun r => ri_M R rs rl se a (k + 1) (rs r)) mono
      by_cases z : k + 1 + 1 ≤ ri_cn (fun r => ri_M R rs rl se a (k + 1) (rs r)) R
      · exact Or.inr z
      · left
        have h3 := h2 (by omega)
        funext e
        show (ri_M R rs rl se a (k + 1) e || ri_ends R rs rl se (ri_M R rs rl se a (k + 1)) R e) = _
        have : ri_ends R rs rl se (ri_M R rs rl se a (k + 1)) R e = ri_ends R rs rl se (ri_M R rs rl se a k) R e := by
          refine ri_ba_c (fun r hr => ?_)
          have := h3 r hr
          rw [this]
        rw [this]
        show (ri_M R rs rl se a (k + 1) e || ri_ends R rs rl se (ri_M R rs rl se a k) R e) = (ri_M R rs rl se a k e || ri_ends R rs rl se (ri_M R rs rl se a k) R e)
        show ((ri_M R rs rl se a k e || ri_ends R rs rl se (ri_M R rs rl se a k) R e) || ri_ends R rs rl se (ri_M R rs rl se a k) R e) = (ri_M R rs rl se a k e || ri_ends R rs rl se (ri_M R rs rl se a k) R e)
        rw [Bool.or_assoc, Bool.or_self]
theorem ri_stab2 {a : Nat} (hR : R ≤ 16) (d : Nat) : ri_M R rs rl se a (16 + d) = ri_M R rs rl se a 16 := by
  have h17 : ri_M R rs rl se a 17 = ri_M R rs rl se a 16 := by
    rcases ri_stab (R := R) (rs := rs) (rl := rl) (se := se) (a := a) 16 with z | z
    · exact z
    · have := ri_cn_n (fun r => ri_M R rs rl se a 16 (rs r)) R; omega
  induction d with
  | zero => rfl
  | succ d ih =>
    show ri_stp R rs rl se (ri_M R rs rl se a (16 + d)) = _
    rw [ih]
    exact h17
theorem ri_fy1 {m : Nat → Bool} {s : Nat} (h : ri_fy R rs rl se m s R = true) : ri_fnd (ri_stp R rs rl se m) s = true := by
  obtain ⟨r, hr, h2⟩ := ri_ba_t.mp h
  simp only [Bool.and_eq_true, decide_eq_true_eq] at h2
  have hd := ri_op_d (ri_las rl se r)
  have : ri_stp R rs rl se m (ri_op (ri_las rl se r)) = true := by
    unfold ri_stp
    rw [show ri_ends R rs rl se m R (ri_op (ri_las rl se r)) = true from ri_ba_t.mpr ⟨r, hr, by simp [h2.1]⟩, Bool.or_true]
  simp only [ri_fnd, Bool.or_eq_true]
  by_cases z : ri_op (ri_las rl se r) = 2 * s
  · rw [z] at this; exact Or.inl this
  · rw [show ri_op (ri_las rl se r) = 2 * s + 1 by omega] at this; exact Or.inr this
theorem ri_fy2 {m : Nat → Bool} {s : Nat} (h : ri_fnd (ri_stp R rs rl se m) s = true) : ri_fnd m s = true ∨ ri_fy R rs rl se m s R = true := by
  have w : ∀ e, e / 2 = s → ri_stp R rs rl se m e = true → m e = true ∨ ri_fy R rs rl se m s R = true := by
    intro e he h
    simp only [ri_stp, Bool.or_eq_true] at h
    rcases h with h | h
    · exact Or.inl h
    · right
      obtain ⟨r, hr, h2⟩ := ri_ba_t.mp h
      simp only [Bool.and_eq_true, decide_eq_true_eq] at h2
      have hd := ri_op_d (ri_las rl se r)
      refine ri_ba_t.mpr ⟨r, hr, ?_⟩
      simp only [Bool.and_eq_true, decide_eq_true_eq]
      exact ⟨h2.1, by rw [← hd, h2.2]; exact he⟩
  simp only [ri_fnd, Bool.or_eq_true] at h ⊢
  rcases h with h | h
  · rcases w _ (by omega) h with y | y
    · exact Or.inl (Or.inl y)
    · exact Or.inr y
  · rcases w _ (by omega) h with y | y
    · exact Or.inl (Or.inr y)
    · exact Or.inr y
theorem ri_hopeq {a s : Nat} (hR : R ≤ 16) (hz : a / 2 ≠ s) : ri_ff (fun i => ri_fy R rs rl se (ri_M R rs rl se a i) s R) 20 = ri_ff (fun i => ri_fnd (ri_M R rs rl se a (i + 1)) s) 16 := by
  have f0 : ri_fnd (ri_M R rs rl se a 0) s = false := by
    simp only [ri_fnd, ri_M, Bool.or_eq_false_iff, decide_eq_false_iff_not]; omega
  by_cases hx : ∃ i, i < 16 ∧ ri_fnd (ri_M R rs rl se a (i + 1)) s = true
  · obtain ⟨m, ⟨hm, h1⟩, h2⟩ := pk_least (fun i => i < 16 ∧ ri_fnd (ri_M R rs rl se a (i + 1)) s = true) hx
    have h3 : ∀ j, j < m → ri_fnd (ri_M R rs rl se a (j + 1)) s = false := by
      intro j hj
      have := h2 j hj
      cases e : ri_fnd (ri_M R rs rl se a (j + 1)) s with
      | false => rfl
      | true => exact absurd ⟨by omega, e⟩ this
    rw [ri_ff_s (m := m) h1 h3 16 hm]
    refine ri_ff_s (m := m) ?_ ?_ 20 (by omega)
    · rcases ri_fy2 h1 with y | y
      · cases m with
        | zero => rw [f0] at y; exact absurd y (by decide)
        | succ m => rw [h3 m (by omega)] at y; exact absurd y (by decide)
      · exact y
    · intro j hj
      cases e : ri_fy R rs rl se (ri_M R rs rl se a j) s R with
      | false => rfl
      | true => have := ri_fy1 e
                rw [show ri_stp R rs rl se (ri_M R rs rl se a j) = ri_M R rs rl se a (j + 1) from rfl, h3 j hj] at this
                exact absurd this (by decide)
  · have h3 : ∀ j, j < 16 → ri_fnd (ri_M R rs rl se a (j + 1)) s = false := by
      intro j hj
      cases e : ri_fnd (ri_M R rs rl se a (j + 1)) s with
      | false => rfl
      | true => exact absurd ⟨j, hj, e⟩ hx
    rw [ri_ff_0 h3]
    refine ri_ff_0 (fun j hj => ?_)
    cases e : ri_fy R rs rl se (ri_M R rs rl se a j) s R with
    | false => rfl
    | true =>
      have w := ri_fy1 e
      rw [show ri_stp R rs rl se (ri_M R rs rl se a j) = ri_M R rs rl se a (j + 1) from rfl] at w
      by_cases z : j < 16
      · rw [h3 j z] at w; exact absurd w (by decide)
      · have q := ri_stab2 (R := R) (rs := rs) (rl := rl) (se := se) (a := a) hR (j + 1 - 16)
        rw [show 16 + (j + 1 - 16) = j + 1 by omega] at q
        rw [q] at w
        rw [h3 15 (by omega)] at w
        exact absurd w (by decide)
/-! Y -/
def ri_mix (f : Nat → Bool) (o : Nat → Int32) (n : Nat) : Nat → Int32 := fun e => if e < n then ri_B (f e) else o e
theorem ri_mix_in {f : Nat → Bool} {o : Nat → Int32} {n e : Nat} (h : e < n) : ri_mix f o n e = ri_B (f e) := if_pos h
theorem ri_mix_0 {f : Nat → Bool} {o : Nat → Int32} : ri_mix f o 0 = o := by
  funext e; exact if_neg (by omega)
theorem ri_mix_s {f : Nat → Bool} {o : Nat → Int32} {n : Nat} : upd (ri_mix f o n) n (ri_B (f n)) = ri_mix f o (n + 1) := by
  funext e
  simp only [upd, ri_mix]
  by_cases h : e = n
  · subst h; rw [if_pos rfl, if_pos (by omega)]
  · rw [if_neg h]
    by_cases h2 : e < n
    · rw [if_pos h2, if_pos (by omega)]
    · rw [if_neg h2, if_neg (by omega)]
theorem ri_mix_u {f : Nat → Bool} {o : Nat → Int32} {n x : Nat} (hx : x < n) : upd (ri_mix f o n) x (ri_B true) = ri_mix (fun e => f e || decide (x = e)) o n := by
  funext e
  simp only [upd, ri_mix]
  by_cases h : e = x
  · subst h; rw [if_pos rfl, if_pos hx]; simp
  · rw [if_neg h]
    simp [Ne.symm h]
theorem ri_mix_m {f g : Nat → Bool} {o : Nat → Int32} {n : Nat} : ri_mix f (ri_mix g o n) n = ri_mix f o n := by
  funext e
  simp only [ri_mix]
  split <;> rfl
theorem ry_widen {post : Int32 → SY → Prop} {m : Nat → Bool} {s : Nat} (hs : s < 10) (hR : R ≤ 16) (RS : ∀ r, rs r < 20) (RL : ∀ r, rl r ≤ 5) (R1 : ∀ r, r < R → 1 ≤ rl r) (SE : ∀ i, se i < 20) (h : post (ri_B (ri_fy R rs rl se m s R)) (sY J R fo ft sg ps rs rl sj se st wt hd lk hg un dn rv (ri_mix m mt 20) (ri_mix (ri_stp R rs rl se m) nx 20))) : wpY_widen post (sY J R fo ft sg ps rs rl sj se st wt hd lk hg un dn rv (ri_mix m mt 20) (ri_mix m nx 20)) (nI s) := by
  have W := ri_fo (fun n r => wY_widen_4 post (nI s) (nI J) (nI R) n (ri_B (ri_fy R rs rl se m s r)) (nI r) (ri_n fo) (ri_n ft) (ri_b sg) (ri_n ps) (ri_n rs) (ri_n rl) (ri_n sj) (ri_n se) (ri_b st) (ri_n wt) (ri_b hd) (ri_x lk) (ri_y hg) (ri_y un) (ri_n dn) rv (ri_mix m mt 20) (ri_mix (fun e => m e || ri_ends R rs rl se m r e) nx 20)) R ?_ ?_
  · rw [show (fun e => m e || ri_ends R rs rl se m 0 e) = m from by funext e; simp [ri_ends, ri_ba]] at W
    exact W
  · intro n
    simp only [wY_widen_4]
    simp (disch := omega) only [nI_leI]
    exact br_t (Nat.le_refl _) ⟨ri_narr _, h⟩
  · intro n r hr p
    have h1 := RS r
    have h2 := RL r
    have h3 := R1 r hr
    have h4 := SE (5 * r + rl r - 1)
    have h5 := ri_op_lt h4
    simp only [wY_widen_4, wY_widen_55]
    simp (disch := omega) only [nI_leI, nI_clamp, ri_n_ap, ri_in, nI_1, ri_mul5', nI_add, ri_sub1, ri_mix_in, ri_B0, ri_two, not_false_eq_true, true_and]
    refine br_f (by omega) ⟨by omega, by omega, br_c (fun z => ?_) (fun z => ⟨by omega, by omega, nm_e ?_⟩)⟩
    · simp only [ri_fy, ri_ends, ri_ba, z, Bool.false_and, Bool.or_false] at p
      exact nm_e p
    · rw [Bool.not_eq_false] at z
      simp (disch := omega) only [ri_op_x, ri_div2, nI_eq, nI_clamp, ri_in, ri_nar1, ri_mix_u]
      have e1 : (fun e => m e || ri_ends R rs rl se m (r + 1) e) = (fun e => (m e || ri_ends R rs rl se m r e) || decide (ri_op (se (5 * r + rl r - 1)) = e)) := by
        funext e; simp only [ri_ends, ri_ba, z, Bool.true_and, Bool.or_assoc]; rfl
      rw [e1] at p
      refine br_c (fun y => ⟨by omega, nm_e (nm_e ?_)⟩) (fun y => ⟨by omega, nm_e (nm_e ?_)⟩)
      · rw [show ri_fy R rs rl se m s (r + 1) = true from by
          simp only [ri_fy, ri_ba, z, Bool.true_and]; rw [show decide (ri_las rl se r / 2 = s) = true from decide_eq_true y, Bool.or_true]] at p
        exact p
      · rw [show ri_fy R rs rl se m s (r + 1) = ri_fy R rs rl se m s r from by
          simp only [ri_fy, ri_ba, z, Bool.true_and]; rw [show decide (ri_las rl se r / 2 = s) = false from decide_eq_false y, Bool.or_false]] at p
        exact p
theorem ry_hops {post : Int32 → SY → Prop} {a s : Nat} (ha : a < 20) (hs : s < 10) (hR : R ≤ 16) (RS : ∀ r, rs r < 20) (RL : ∀ r, rl r ≤ 5) (R1 : ∀ r, r < R → 1 ≤ rl r) (SE : ∀ i, se i < 20) (h0 : a / 2 = s → post 0 (sY J R fo ft sg ps rs rl sj se st wt hd lk hg un dn rv mt nx)) (h : a / 2 ≠ s → ∀ mt' nx', post (ri_ans (ri_ff (fun i => ri_fy R rs rl se (ri_M R rs rl se a i) s R) 20)) (sY J R fo ft sg ps rs rl sj se st wt hd lk hg un dn rv mt' nx')) : wpY_hops post (sY J R fo ft sg ps rs rl sj se st wt hd lk hg un dn rv mt nx) (nI a) (nI s) := by
  simp only [wpY_hops]
  refine ry_inN1 19 (by omega) ha (br_f (by decide) (ry_inN1 9 (by omega) hs (br_f (by decide) ⟨by decide, ?_⟩)))
  simp (disch := omega) only [ri_div2, nI_eq]
  refine br_c h0 (fun z => ?_)
  have hp := h z
  have W := ri_fo (fun n e => wY_hops_35 post (nI a) (nI s) (nI J) (nI R) n (nI e) (ri_n fo) (ri_n ft) (ri_b sg) (ri_n ps) (ri_n rs) (ri_n rl) (ri_n sj) (ri_n se) (ri_b st) (ri_n wt) (ri_b hd) (ri_x lk) (ri_y hg) (ri_y un) (ri_n dn) rv (ri_mix (ri_M R rs rl se a 0) mt e) (ri_mix (ri_M R rs rl se a 0) nx e)) 20 ?_ ?_
  · rw [ri_mix_0, ri_mix_0] at W; exact W
  · intro n
    simp only [wY_hops_35]
    refine br_t (nI_le (a := 20) (b := 20) (by omega) (by omega)) ?_
    refine ri_sf (fun n i => wY_hops_81 post (nI s) n (nI (i + 1)) (nI J) (nI R) (ri_n fo) (ri_n ft) (ri_b sg) (ri_n ps) (ri_n rs) (ri_n rl) (ri_n sj) (ri_n se) (ri_b st) (ri_n wt) (ri_b hd) (ri_x lk) (ri_y hg) (ri_y un) (ri_n dn) rv (ri_mix (ri_M R rs rl se a i) mt 20) (ri_mix (ri_M R rs rl se a i) nx 20)) (fun v => ∀ mt' nx', post (ri_ans v) (sY J R fo ft sg ps rs rl sj se st wt hd lk hg un dn rv mt' nx')) (fun i => ri_fy R rs rl se (ri_M R rs rl se a i) s R) 20 hp ?_ ?_ ?_
    · intro n p
      exact br_t (nI_lt (a := 20) (b := 21) (by omega) (by omega)) (p _ _)
    · intro n i hi hf p
      simp only [wY_hops_81]
      refine br_f (nI_nlt (b := i + 1) (a := 20) (by omega) (by omega)) (ry_widen hs hR RS RL R1 SE ?_)
      rw [hf]
      exact br_f (by decide) (p _ _)
    · intro n i hi hf p
      simp only [wY_hops_81]
      refine br_f (nI_nlt (b := i + 1) (a := 20) (by omega) (by omega)) (ry_widen hs hR RS RL R1 SE ?_)
      rw [hf]
      refine br_t (by decide) ?_
      have V := ri_fo (fun k e => wY_hops_100 post (wY_hops_81 post (nI s) n) (nI s) (nI (i + 1)) (nI J) (nI R) k (nI e) (ri_n fo) (ri_n ft) (ri_b sg) (ri_n ps) (ri_n rs) (ri_n rl) (ri_n sj) (ri_n se) (ri_b st) (ri_n wt) (ri_b hd) (ri_x lk) (ri_y hg) (ri_y un) (ri_n dn) rv (ri_mix (ri_M R rs rl se a (i + 1)) (ri_mix (ri_M R rs rl se a i) mt 20) e) (ri_mix (ri_M R rs rl se a (i + 1)) nx 20)) 20 ?_ ?_
      · rw [ri_mix_0] at V; exact V
      · intro k
        simp only [wY_hops_100]
        refine br_t (nI_le (a := 20) (b := 20) (by omega) (by omega)) (nm_r (nI_1 _) ?_)
        rw [ri_mix_m]
        exact p
      · intro k e he q
        simp only [wY_hops_100]
        simp (disch := omega) only [nI_clamp, ri_in, ri_mix_in, ri_nar, ri_mix_s, ri_le20, nI_1]
        exact br_f (by omega) ⟨by omega, by omega, nm_e (nm_e q)⟩
  · intro n e he p
    simp only [wY_hops_35, wY_hops_56]
    simp (disch := omega) only [nI_clamp, ri_in, ri_le20, nI_1, nI_eq, ri_nar1, ri_nar0]
    refine br_f (by omega) (br_c (fun y => ⟨by omega, nm_e (br_t y ⟨by omega, nm_e (nm_e ?_)⟩)⟩) (fun y => ⟨by omega, nm_e (br_f y ⟨by omega, nm_e (nm_e ?_)⟩)⟩))
    · rw [← ri_mix_s, ← ri_mix_s, show ri_M R rs rl se a 0 e = true from decide_eq_true y] at p
      exact p
    · rw [← ri_mix_s, ← ri_mix_s, show ri_M R rs rl se a 0 e = false from decide_eq_false y] at p
      exact p
end
end
section
section
variable {J R : Nat} {fo ft ct ej ps : Nat → Nat} {sg : Nat → Bool} {rs rl sj se : Nat → Nat} {cb : Nat → Int32} {st : Nat → Bool} {wt : Nat → Nat} {hd : Nat → Bool} {lk hg un dn : Nat → Nat} {rv mt nx : Nat → Int32}
def ri_R (J R : Nat) (rs rl sj se : Nat → Nat) : Prop := R ≤ 16 ∧ (∀ r, rs r < 20) ∧ (∀ r, rl r ≤ 5) ∧ (∀ i, sj i < 12) ∧ (∀ i, se i < 20) ∧ (∀ r, r < R → 1 ≤ rl r) ∧ (∀ r, r < R → ∀ i, i < rl r → sj (5 * r + i) < J ∧ se (5 * r + i) / 2 ≠ rs r / 2)
theorem ri_Jk {a q : Nat} (HJ : ri_J J fo ft ct ej) (ha : a < 20) (hq : q < ct a) : ej (2 * a + q) < J ∧ ri_at fo ft a (ej (2 * a + q)) = true := by
  obtain ⟨hJ, FO, FT, CT, EJ, -, H1, H2⟩ := HJ
  rw [H1 a ha] at hq
  obtain ⟨i, h1, h2, h3⟩ := ri_cn_x J hq
  have := H2 a ha i h1 h2
  rw [h3] at this
  rw [this]
  exact ⟨h1, h2⟩
theorem ri_15 : ∀ i, i ≤ 4 → (15 : Int32) >>> (nI i &&& 31) = nI (2 ^ (4 - i) - 1) := by decide +kernel
theorem ri_fw {a ch : Nat} (HJ : ri_J J fo ft ct ej) (hR : R < 16) (ha : a < 20) (hc : ch < 32) : ∀ f i, i + f = 5 → ∀ (e b : Nat) (sj se : Nat → Nat), e < 20 → b < 2 ^ 10 → b.testBit (a / 2) = true → (∀ i, sj i < 12) → (∀ i, se i < 20) → (∀ k, k < i → sj (5 * R + k) < J ∧ se (5 * R + k) / 2 ≠ a / 2) →
    ∃ (len : Nat) (sj' se' : Nat → Nat), len ≤ 5 ∧ (∀ i, sj' i < 12) ∧ (∀ i, se' i < 20) ∧ (∀ x, x < 5 * R → sj' x = sj x ∧ se' x = se x) ∧ (∀ k, k < len → sj' (5 * R + k) < J ∧ se' (5 * R + k) / 2 ≠ a / 2) ∧
      (∀ post : Int32 → SX → Prop, post (nI len) (sX J R fo ft ct ej ps sg rs rl sj' se' cb st wt hd lk hg un dn) → wX_followWay_12 post (nI ch) (nI J) (nI R) (f + 1) (nI b) (nI e) (nI i) (ri_n fo) (ri_n ft) (ri_n ct) (ri_n ej) (ri_n ps) (ri_b sg) (ri_n rs) (ri_n rl) (ri_n sj) (ri_n se) cb (ri_b st) (ri_n wt) (ri_b hd) (ri_x lk) (ri_x hg) (ri_x un) (ri_n dn)) ∧
      (∀ post : SY → Prop, (len = 0 → post (sY J R fo ft sg ps rs rl sj' se' st wt hd lk hg un dn rv mt nx)) → (len ≠ 0 → post (sY J (R + 1) fo ft sg ps (ri_u rs R a) (ri_u rl R len) sj' se' st wt hd lk hg un dn rv mt nx)) → wY_follow_22 post (nI a) (nI ch) (nI J) (nI R) (f + 1) (nI e) (nI b) (nI i) (ri_n fo) (ri_n ft) (ri_b sg) (ri_n ps) (ri_n rs) (ri_n rl) (ri_n sj) (ri_n se) (ri_b st) (ri_n wt) (ri_b hd) (ri_x lk) (ri_y hg) (ri_y un) (ri_n dn) rv mt nx) := by
  have HJ' := HJ
  obtain ⟨hJ, FO, FT, CT, EJ, -, -, -⟩ := HJ'
  intro f
  induction f with
  | zero =>
    intro i hi e b sj se he hb hba SJ SE hk
    have e5 : i = 5 := by omega
    subst e5
    refine ⟨0, sj, se, by omega, SJ, SE, fun x _ => ⟨rfl, rfl⟩, fun k hk => by omega, ?_, ?_⟩
    · intro post hp
      exact br_t (nI_le (a := 5) (b := 5) (by omega) (by omega)) hp
    · intro post hp _
      exact br_t (nI_le (a := 5) (b := 5) (by omega) (by omega)) (hp rfl)
  | succ f ih =>
    intro i hi e b sj se he hb hba SJ SE hk
    have hq1 : ch / 2 ^ (4 - i) < 2 ^ 31 := by
      have := Nat.div_le_self ch (2 ^ (4 - i)); omega
    have hq2 : ch / 2 ^ (4 - i) % 2 < 2 := Nat.mod_lt _ (by omega)
    generalize hqd : ch / 2 ^ (4 - i) % 2 = q at hq2
    have hce := CT e
    generalize hn : f + 1 = n at ih ⊢
    by_cases hz : q < ct e
    · obtain ⟨hjJ, hat⟩ := ri_Jk HJ he hz
      have hj12 := EJ (2 * e + q)
      generalize hjd : ej (2 * e + q) = j at hjJ hat hj12
      have hen : ri_far fo ft j e < 20 := by
        unfold ri_far; split
        · exact FT _
        · exact FO _
      have hf1 := FO j
      have hf2 := FT j
      have hfar : ∀ (P : Int32 → Prop), P (nI (ri_far fo ft j e)) → (fo j = e → P (nI (ft j))) ∧ (¬ fo j = e → P (nI (fo j))) := by
        intro P hp
        unfold ri_far at hp
        refine ⟨fun y => ?_, fun y => ?_⟩
        · rw [if_pos y] at hp; exact hp
        · rw [if_neg y] at hp; exact hp
      generalize hend : ri_far fo ft j e = en at hen hfar
      have hop := ri_op_lt hen
      have hopd := ri_op_d en
      have hbd : b / 2 ^ (en / 2) < 2 ^ 31 := by
        have := Nat.div_le_self b (2 ^ (en / 2)); omega
      have hp2 : 2 ^ (en / 2) < 2 ^ 10 := Nat.pow_lt_pow_right (by decide) (by omega)
      have hbo : b ||| 2 ^ (en / 2) < 2 ^ 10 := Nat.or_lt_two_pow hb hp2
      -- the common opening of both walks
      have openX : ∀ post : Int32 → SX → Prop, ((b.testBit (en / 2) = true → post 0 (sX J R fo ft ct ej ps sg rs rl sj se cb st wt hd lk hg un dn)) ∧ (b.testBit (en / 2) = false → ((sg (ri_op en) = true ∨ ct (ri_op en) = 0 → wX_followWay_146 post (nI ch) (nI i) (nI J) (nI R) (ri_n fo) (ri_n ft) (ri_n ct) (ri_n ej) (ri_n ps) (ri_b sg) (ri_n rs) (ri_n rl) (ri_n (ri_u sj (5 * R + i) j)) (ri_n (ri_u se (5 * R + i) en)) cb (ri_b st) (ri_n wt) (ri_b hd) (ri_x lk) (ri_x hg) (ri_x un) (ri_n dn)) ∧ (¬ (sg (ri_op en) = true ∨ ct (ri_op en) = 0) → wX_followWay_12 post (nI ch) (nI J) (nI R) n (nI (b ||| 2 ^ (en / 2))) (nI (ri_op en)) (nI (i + 1)) (ri_n fo) (ri_n ft) (ri_n ct) (ri_n ej) (ri_n ps) (ri_b sg) (ri_n rs) (ri_n rl) (ri_n (ri_u sj (5 * R + i) j)) (ri_n (ri_u se (5 * R + i) en)) cb (ri_b st) (ri_n wt) (ri_b hd) (ri_x lk) (ri_x hg) (ri_x un) (ri_n dn))))) → wX_followWay_12 post (nI ch) (nI J) (nI R) (n + 1) (nI b) (nI e) (nI i) (ri_n fo) (ri_n ft) (ri_n ct) (ri_n ej) (ri_n ps) (ri_b sg) (ri_n rs) (ri_n rl) (ri_n sj) (ri_n se) cb (ri_b st) (ri_n wt) (ri_b hd) (ri_x lk) (ri_x hg) (ri_x un) (ri_n dn) := by
        intro post H
        simp only [wX_followWay_12]
        simp (disch := omega) only [ri_le5, ri_four, ri_shr, ri_a1, hqd]
        refine br_f (by omega) (nm_e ?_)
        simp (disch := omega) only [nI_clamp, ri_in, ri_n_ap, nI_ltI, ri_mul2, nI_add, hjd]
        refine ⟨by omega, br_t hz ⟨by omega, nm_e ?_⟩⟩
        refine rx_far hj12 (by omega) FO ?_
        rw [hend]
        simp (disch := omega) only [ri_two, not_false_eq_true, true_and, ri_div2, ri_shr, ri_a1, ri_eq0, ri_tb, ri_sh1, ri_or, ri_mul5, nI_add, nI_clamp, ri_in, ri_upd_n, ri_op_x, nI_1]
        refine br_c (fun y => nm_e ⟨by omega, nm_e ⟨by omega, nm_e (nm_e ?_)⟩⟩) (fun y => ?_)
        · have H2 := H.2 y
          simp (disch := omega) only [nI_clamp, ri_in, ri_b_ap, ri_B0, ri_n_ap]
          have hcc := CT (ri_op en)
          simp (disch := omega) only [ri_eq0]
          refine ⟨hop, br_c (fun w1 => ⟨hop, br_c (fun w2 => H2.1 (Or.inr w2)) (fun w2 => nm_e (H2.2 ?_))⟩) (fun w1 => H2.1 (Or.inl ?_))⟩
          · rintro (w | w)
            · rw [w1] at w; exact absurd w (by decide)
            · exact w2 w
          · rw [Bool.not_eq_false] at w1; exact w1
        · rw [Bool.not_eq_false] at y; exact H.1 y
      have openY : ∀ post : SY → Prop, ((b.testBit (en / 2) = true → post (sY J R fo ft sg ps rs rl sj se st wt hd lk hg un dn rv mt nx)) ∧ (b.testBit (en / 2) = false → ((sg (ri_op en) = true ∨ ct (ri_op en) = 0 → wY_follow_160 post (nI a) (nI ch) (nI i) (nI J) (nI R) (ri_n fo) (ri_n ft) (ri_b sg) (ri_n ps) (ri_n rs) (ri_n rl) (ri_n (ri_u sj (5 * R + i) j)) (ri_n (ri_u se (5 * R + i) en)) (ri_b st) (ri_n wt) (ri_b hd) (ri_x lk) (ri_y hg) (ri_y un) (ri_n dn) rv mt nx) ∧ (¬ (sg (ri_op en) = true ∨ ct (ri_op en) = 0) → wY_follow_22 post (nI a) (nI ch) (nI J) (nI R) n (nI (ri_op en)) (nI (b ||| 2 ^ (en / 2))) (nI (i + 1)) (ri_n fo) (ri_n ft) (ri_b sg) (ri_n ps) (ri_n rs) (ri_n rl) (ri_n (ri_u sj (5 * R + i) j)) (ri_n (ri_u se (5 * R + i) en)) (ri_b st) (ri_n wt) (ri_b hd) (ri_x lk) (ri_y hg) (ri_y un) (ri_n dn) rv mt nx)))) → wY_follow_22 post (nI a) (nI ch) (nI J) (nI R) (n + 1) (nI e) (nI b) (nI i) (ri_n fo) (ri_n ft) (ri_b sg) (ri_n ps) (ri_n rs) (ri_n rl) (ri_n sj) (ri_n se) (ri_b st) (ri_n wt) (ri_b hd) (ri_x lk) (ri_y hg) (ri_y un) (ri_n dn) rv mt nx := by
        intro post H
        have T : wY_follow_77 post (wY_follow_22 post (nI a) (nI ch) (nI J) (nI R) n) (nI a) (nI ch) (nI b) (nI i) (nI j) (nI en) (nI J) (nI R) (ri_n fo) (ri_n ft) (ri_b sg) (ri_n ps) (ri_n rs) (ri_n rl) (ri_n sj) (ri_n se) (ri_b st) (ri_n wt) (ri_b hd) (ri_x lk) (ri_y hg) (ri_y un) (ri_n dn) rv mt nx := by
          simp only [wY_follow_77]
          simp (disch := omega) only [ri_two, not_false_eq_true, true_and, ri_div2, ri_shr, ri_a1, ri_eq1, ri_tb1, ri_sh1, ri_or, ri_mul5', nI_add, nI_clamp, ri_in, ri_upd_n, nI_1]
          refine br_c (fun y => H.1 y) (fun y => nm_e ⟨by omega, nm_e ⟨by omega, nm_e ?_⟩⟩)
          rw [Bool.not_eq_true] at y
          have H2 := H.2 y
          simp only [wpY_opposite]
          simp (disch := omega) only [ri_op_x, nI_clamp, ri_in, ri_b_ap, ri_B0]
          refine ⟨hop, br_c (fun w1 => ry_jats hop HJ ?_) (fun w1 => H2.1 (Or.inl ?_))⟩
          · have hcc := CT (ri_op en)
            simp (disch := omega) only [ri_eq0]
            refine br_c (fun w2 => H2.1 (Or.inr w2)) (fun w2 => nm_e (H2.2 ?_))
            rintro (w | w)
            · rw [w1] at w; exact absurd w (by decide)
            · exact w2 w
          · rw [Bool.not_eq_false] at w1; exact w1
        simp only [wY_follow_22]
        simp (disch := omega) only [ri_le5, ri_four, ri_shr, ri_a1, hqd]
        refine br_f (by omega) (ry_jat he (by omega) HJ (fun _ => ?_) (fun y => absurd y (by omega)))
        rw [hjd]
        simp (disch := omega) only [ri_le0, nI_clamp, ri_in, ri_n_ap, nI_eq]
        have hT := hfar (fun z => wY_follow_77 post (wY_follow_22 post (nI a) (nI ch) (nI J) (nI R) n) (nI a) (nI ch) (nI b) (nI i) (nI j) z (nI J) (nI R) (ri_n fo) (ri_n ft) (ri_b sg) (ri_n ps) (ri_n rs) (ri_n rl) (ri_n sj) (ri_n se) (ri_b st) (ri_n wt) (ri_b hd) (ri_x lk) (ri_y hg) (ri_y un) (ri_n dn) rv mt nx) T
        exact br_t (Nat.zero_le _) ⟨hj12, br_c (fun y => ⟨hj12, hT.1 y⟩) (fun y => ⟨hj12, hT.2 y⟩)⟩
      by_cases hbt : b.testBit (en / 2) = true
      · refine ⟨0, sj, se, by omega, SJ, SE, fun x _ => ⟨rfl, rfl⟩, fun k hk => by omega, ?_, ?_⟩
        · intro post hp
          exact openX post ⟨fun _ => hp, fun y => by rw [hbt] at y; exact absurd y (by decide)⟩
        · intro post hp _
          exact openY post ⟨fun _ => hp rfl, fun y => by rw [hbt] at y; exact absurd y (by decide)⟩
      · have hne : en / 2 ≠ a / 2 := by
          intro y; rw [y] at hbt; exact hbt hba
        have SJ' : ∀ x, ri_u sj (5 * R + i) j x < 12 := by
          intro x; unfold ri_u; split
          · exact hj12
          · exact SJ x
        have SE' : ∀ x, ri_u se (5 * R + i) en x < 20 := by
          intro x; unfold ri_u; split
          · exact hen
          · exact SE x
        have hk' : ∀ k, k < i + 1 → ri_u sj (5 * R + i) j (5 * R + k) < J ∧ ri_u se (5 * R + i) en (5 * R + k) / 2 ≠ a / 2 := by
          intro k hk2
          by_cases y : k = i
          · subst y; rw [ri_us, ri_us]; exact ⟨hjJ, hne⟩
          · rw [ri_un (by omega), ri_un (by omega)]; exact hk k (by omega)
        have lo : ∀ x, x < 5 * R → ri_u sj (5 * R + i) j x = sj x ∧ ri_u se (5 * R + i) en x = se x := by
          intro x hx; rw [ri_un (by omega), ri_un (by omega)]; exact ⟨rfl, rfl⟩
        by_cases hs : sg (ri_op en) = true ∨ ct (ri_op en) = 0
        · have hm : ch &&& (2 ^ (4 - i) - 1) < 2 ^ 31 := by
            have := Nat.and_le_left (n := ch) (m := 2 ^ (4 - i) - 1); omega
          have hp4 := ri_p31 (n := 4 - i) (by omega)
          have hp5 := Nat.two_pow_pos (4 - i)
          by_cases hl : ch &&& (2 ^ (4 - i) - 1) = 0
          · refine ⟨i + 1, _, _, by omega, SJ', SE', lo, hk', ?_, ?_⟩
            · intro post hp
              refine openX post ⟨fun y => absurd y hbt, fun _ => ⟨fun _ => ?_, fun y => absurd hs y⟩⟩
              simp only [wX_followWay_146]
              simp (disch := omega) only [ri_four, ri_sh1, ri_sub1, ri_and, nI_1]
              refine nm_e ?_
              simp (disch := omega) only [ri_eq0]
              exact br_t hl hp
            · intro post _ hp
              refine openY post ⟨fun y => absurd y hbt, fun _ => ⟨fun _ => ?_, fun y => absurd hs y⟩⟩
              simp only [wY_follow_160]
              simp (disch := omega) only [ri_15, ri_and, ri_eq0, nI_clamp, ri_in, nI_1, ri_upd_n]
              exact br_t hl ⟨hR, nm_e ⟨hR, nm_e (nm_e (hp (by omega)))⟩⟩
          · refine ⟨0, _, _, by omega, SJ', SE', lo, fun k hk => by omega, ?_, ?_⟩
            · intro post hp
              refine openX post ⟨fun y => absurd y hbt, fun _ => ⟨fun _ => ?_, fun y => absurd hs y⟩⟩
              simp only [wX_followWay_146]
              simp (disch := omega) only [ri_four, ri_sh1, ri_sub1, ri_and, nI_1]
              refine nm_e ?_
              simp (disch := omega) only [ri_eq0]
              exact br_f hl hp
            · intro post hp _
              refine openY post ⟨fun y => absurd y hbt, fun _ => ⟨fun _ => ?_, fun y => absurd hs y⟩⟩
              simp only [wY_follow_160]
              simp (disch := omega) only [ri_15, ri_and, ri_eq0, nI_clamp, ri_in, nI_1, ri_upd_n]
              exact br_f hl (hp rfl)
        · have hbt2 : (b ||| 2 ^ (en / 2)).testBit (a / 2) = true := by
            rw [Nat.testBit_or, hba, Bool.true_or]
          obtain ⟨len, sj', se', g1, g2, g3, g4, g5, gX, gY⟩ := ih (i + 1) (by omega) (ri_op en) (b ||| 2 ^ (en / 2)) _ _ hop hbo hbt2 SJ' SE' hk'
          refine ⟨len, sj', se', g1, g2, g3, fun x hx => ?_, g5, ?_, ?_⟩
          · rw [(g4 x hx).1, (g4 x hx).2]; exact lo x hx
          · intro post hp
            exact openX post ⟨fun y => absurd y hbt, fun _ => ⟨fun y => absurd y hs, fun _ => gX post hp⟩⟩
          · intro post hp0 hp1
            exact openY post ⟨fun y => absurd y hbt, fun _ => ⟨fun y => absurd y hs, fun _ => gY post hp0 hp1⟩⟩
    · refine ⟨0, sj, se, by omega, SJ, SE, fun x _ => ⟨rfl, rfl⟩, fun k hk => by omega, ?_, ?_⟩
      · intro post hp
        simp only [wX_followWay_12]
        simp (disch := omega) only [ri_le5, ri_four, ri_shr, ri_a1, hqd]
        refine br_f (by omega) (nm_e ?_)
        simp (disch := omega) only [nI_clamp, ri_in, ri_n_ap, nI_ltI]
        exact ⟨he, br_f hz hp⟩
      · intro post hp _
        simp only [wY_follow_22]
        simp (disch := omega) only [ri_le5, ri_four, ri_shr, ri_a1, hqd]
        refine br_f (by omega) (ry_jat he (by omega) HJ (fun y => absurd y hz) (fun _ => ?_))
        exact br_f (by decide) (hp rfl)
end
end
section
section
variable {J R : Nat} {fo ft ct ej ps : Nat → Nat} {sg : Nat → Bool} {rs rl sj se : Nat → Nat} {cb : Nat → Int32} {st : Nat → Bool} {wt : Nat → Nat} {hd : Nat → Bool} {lk hg un dn : Nat → Nat} {rv mt nx : Nat → Int32}
theorem ri_fol {a ch : Nat} (HJ : ri_J J fo ft ct ej) (HR : ri_R J R rs rl sj se) (hR : R < 16) (ha : a < 20) (hc : ch < 32) :
    ∃ (len : Nat) (sj' se' : Nat → Nat), len ≤ 5 ∧ (∀ i, sj' i < 12) ∧ (∀ i, se' i < 20) ∧ (∀ x, x < 5 * R → sj' x = sj x ∧ se' x = se x) ∧ (∀ k, k < len → sj' (5 * R + k) < J ∧ se' (5 * R + k) / 2 ≠ a / 2) ∧
      (∀ post : Int32 → SX → Prop, post (nI len) (sX J R fo ft ct ej ps sg rs rl sj' se' cb st wt hd lk hg un dn) → wpX_followWay post (sX J R fo ft ct ej ps sg rs rl sj se cb st wt hd lk hg un dn) (nI a) (nI ch)) ∧
      (∀ post : SY → Prop, (len = 0 → post (sY J R fo ft sg ps rs rl sj' se' st wt hd lk hg un dn rv mt nx)) → (len ≠ 0 → post (sY J (R + 1) fo ft sg ps (ri_u rs R a) (ri_u rl R len) sj' se' st wt hd lk hg un dn rv mt nx)) → wpY_follow post (sY J R fo ft sg ps rs rl sj se st wt hd lk hg un dn rv mt nx) (nI a) (nI ch)) := by
  have hp : 2 ^ (a / 2) < 2 ^ 10 := Nat.pow_lt_pow_right (by decide) (by omega)
  obtain ⟨len, sj', se', g1, g2, g3, g4, g5, gX, gY⟩ := ri_fw (ps := ps) (sg := sg) (rs := rs) (rl := rl) (cb := cb) (st := st) (wt := wt) (hd := hd) (lk := lk) (hg := hg) (un := un) (dn := dn) (rv := rv) (mt := mt) (nx := nx) HJ hR ha hc 5 0 rfl a (2 ^ (a / 2)) sj se ha hp (by rw [Nat.testBit_two_pow]; simp) HR.2.2.2.1 HR.2.2.2.2.1 (fun k hk => by omega)
  refine ⟨len, sj', se', g1, g2, g3, g4, g5, ?_, ?_⟩
  · intro post h
    simp only [wpX_followWay]
    refine ⟨by decide, nm_r (e' := nI (2 ^ (a / 2))) ?_ ⟨6, gX post h⟩⟩
    rw [ri_div2 (by omega), ri_sh1 (by omega)]
  · intro post h0 h1
    simp only [wpY_follow]
    refine br_f ?_ ⟨by decide, nm_r (e' := nI (2 ^ (a / 2))) ?_ ⟨6, gY post h0 h1⟩⟩
    · intro z
      exact absurd ((ri_eq16 (by omega)).mp z) (by omega)
    · rw [ri_div2 (by omega), ri_sh1 (by omega)]
theorem ry_full {post : SY → Prop} {J7 : Int32 → Int32 → Int32 → (Nat → Int32) → (Nat → Int32) → (Nat → Int32) → (Nat → Int32) → (Nat → Int32) → (Nat → Int32) → (Nat → Int32) → (Nat → Int32) → (Nat → Int32) → (Nat → Int32) → (Nat → Int32) → (Nat → Int32) → (Nat → Int32) → (Nat → Int32) → (Nat → Int32) → (Nat → Int32) → (Nat → Int32) → (Nat → Int32) → Prop} {a : Nat} (h : J7 (nI (a + 1)) (nI J) (nI 16) (ri_n fo) (ri_n ft) (ri_b sg) (ri_n ps) (ri_n rs) (ri_n rl) (ri_n sj) (ri_n se) (ri_b st) (ri_n wt) (ri_b hd) (ri_x lk) (ri_y hg) (ri_y un) (ri_n dn) rv mt nx) : ∀ d ch, ch + d = 32 → wY_findRoutes_24 post J7 (nI a) (d + 1) (nI ch) (nI J) (nI 16) (ri_n fo) (ri_n ft) (ri_b sg) (ri_n ps) (ri_n rs) (ri_n rl) (ri_n sj) (ri_n se) (ri_b st) (ri_n wt) (ri_b hd) (ri_x lk) (ri_y hg) (ri_y un) (ri_n dn) rv mt nx := by
  intro d
  induction d with
  | zero =>
    intro ch hc
    have e : ch = 32 := by omega
    subst e
    exact br_t (nI_le (a := 32) (b := 32) (by omega) (by omega)) (nm_r (nI_1 _) h)
  | succ d ih =>
    intro ch hc
    generalize hn : d + 1 = n at ih ⊢
    simp only [wY_findRoutes_24]
    refine br_f (nI_ge (b := 32) (by omega) (by omega)) ?_
    simp only [wpY_follow]
    exact br_t rfl (nm_r (nI_1 _) (ih (ch + 1) (by omega)))
theorem ri_frf {a : Nat} (HJ : ri_J J fo ft ct ej) (ha : a < 20) : ∀ d ch, ch + d = 32 → ∀ (R : Nat) (rs rl sj se : Nat → Nat), ri_R J R rs rl sj se → ∃ (R' : Nat) (rs' rl' sj' se' : Nat → Nat), ri_R J R' rs' rl' sj' se' ∧
    (∀ post : SX → Prop, post (sX J R' fo ft ct ej ps sg rs' rl' sj' se' cb st wt hd lk hg un dn) → wX_findRoutesFrom_2 post (nI a) (d + 1) (nI ch) (nI J) (nI R) (ri_n fo) (ri_n ft) (ri_n ct) (ri_n ej) (ri_n ps) (ri_b sg) (ri_n rs) (ri_n rl) (ri_n sj) (ri_n se) cb (ri_b st) (ri_n wt) (ri_b hd) (ri_x lk) (ri_x hg) (ri_x un) (ri_n dn)) ∧
    (∀ (post : SY → Prop) (J7 : Int32 → Int32 → Int32 → (Nat → Int32) → (Nat → Int32) → (Nat → Int32) → (Nat → Int32) → (Nat → Int32) → (Nat → Int32) → (Nat → Int32) → (Nat → Int32) → (Nat → Int32) → (Nat → Int32) → (Nat → Int32) → (Nat → Int32) → (Nat → Int32) → (Nat → Int32) → (Nat → Int32) → (Nat → Int32) → (Nat → Int32) → (Nat → Int32) → Prop), J7 (nI (a + 1)) (nI J) (nI R') (ri_n fo) (ri_n ft) (ri_b sg) (ri_n ps) (ri_n rs') (ri_n rl') (ri_n sj') (ri_n se') (ri_b st) (ri_n wt) (ri_b hd) (ri_x lk) (ri_y hg) (ri_y un) (ri_n dn) rv mt nx → wY_findRoutes_24 post J7 (nI a) (d + 1) (nI ch) (nI J) (nI R) (ri_n fo) (ri_n ft) (ri_b sg) (ri_n ps) (ri_n rs) (ri_n rl) (ri_n sj) (ri_n se) (ri_b st) (ri_n wt) (ri_b hd) (ri_x lk) (ri_y hg) (ri_y un) (ri_n dn) rv mt nx) := by
  intro d
  induction d with
  | zero =>
    intro ch hc R rs rl sj se HR
    have e : ch = 32 := by omega
    subst e
    refine ⟨R, rs, rl, sj, se, HR, ?_, ?_⟩
    · intro post h
      exact br_t (nI_le (a := 32) (b := 32) (by omega) (by omega)) h
    · intro post J7 h
      exact br_t (nI_le (a := 32) (b := 32) (by omega) (by omega)) (nm_r (nI_1 _) h)
  | succ d ih =>
    intro ch hc R rs rl sj se HR
    have HR' := HR
    obtain ⟨hR, RS, RL, SJ, SE, R1, R2⟩ := HR'
    by_cases h16 : R = 16
    · subst h16
      refine ⟨16, rs, rl, sj, se, HR, ?_, ?_⟩
      · intro post h
        generalize hn : d + 1 = n
        simp only [wX_findRoutesFrom_2]
        exact br_f (nI_ge (b := 32) (by omega) (by omega)) (br_t (nI_le (a := 16) (b := 16) (by omega) (by omega)) h)
      · intro post J7 h
        exact ry_full h (d + 1) ch hc
    · obtain ⟨len, sj', se', g1, g2, g3, g4, g5, gX, gY⟩ := ri_fol (ps := ps) (sg := sg) (cb := cb) (st := st) (wt := wt) (hd := hd) (lk := lk) (hg := hg) (un := un) (dn := dn) (rv := rv) (mt := mt) (nx := nx) HJ HR (by omega) ha (show ch < 32 by omega)
      have old : ∀ r, r < R → ∀ i, i < rl r → sj' (5 * r + i) < J ∧ se' (5 * r + i) / 2 ≠ rs r / 2 := by
        intro r hr i hi
        have := RL r
        rw [(g4 (5 * r + i) (by omega)).1, (g4 (5 * r + i) (by omega)).2]
        exact R2 r hr i hi
      by_cases hl : len = 0
      · have HN : ri_R J R rs rl sj' se' := ⟨hR, RS, RL, g2, g3, R1, old⟩
        obtain ⟨R'', rs'', rl'', sj'', se'', q1, qX, qY⟩ := ih (ch + 1) (by omega) R rs rl sj' se' HN
        refine ⟨R'', rs'', rl'', sj'', se'', q1, ?_, ?_⟩
        · intro post h
          have p := qX post h
          generalize hn : d + 1 = n at p ⊢
          simp only [wX_findRoutesFrom_2]
          refine br_f (nI_ge (b := 32) (by omega) (by omega)) (br_f (nI_ge (b := 16) (by omega) (by omega)) (gX _ ?_))
          subst hl
          exact br_t (by decide) (nm_r (nI_1 _) p)
        · intro post J7 h
          have p := qY post J7 h
          generalize hn : d + 1 = n at p ⊢
          simp only [wY_findRoutes_24]
          refine br_f (nI_ge (b := 32) (by omega) (by omega)) (gY _ (fun _ => nm_r (nI_1 _) p) (fun y => absurd hl y))
      · have HN : ri_R J (R + 1) (ri_u rs R a) (ri_u rl R len) sj' se' := by
          refine ⟨by omega, ?_, ?_, g2, g3, ?_, ?_⟩
          · intro r; unfold ri_u; split
            · exact ha
            · exact RS r
          · intro r; unfold ri_u; split
            · exact g1
            · exact RL r
          · intro r hr
            by_cases z : r = R
            · subst z; rw [ri_us]; omega
            · rw [ri_un z]; exact R1 r (by omega)
          · intro r hr i hi
            by_cases z : r = R
            · subst z; rw [ri_us] at hi ⊢; exact g5 i hi
            · rw [ri_un z] at hi ⊢; exact old r (by omega) i hi
        obtain ⟨R'', rs'', rl'', sj'', se'', q1, qX, qY⟩ := ih (ch + 1) (by omega) (R + 1) (ri_u rs R a) (ri_u rl R len) sj' se' HN
        refine ⟨R'', rs'', rl'', sj'', se'', q1, ?_, ?_⟩
        · intro post h
          have p := qX post h
          generalize hn : d + 1 = n at p ⊢
          simp only [wX_findRoutesFrom_2]
          refine br_f (nI_ge (b := 32) (by omega) (by omega)) (br_f (nI_ge (b := 16) (by omega) (by omega)) (gX _ ?_))
          simp (disch := omega) only [nI_clamp, ri_in, ri_upd_n, ri_ge0, nI_1]
          exact br_f (by omega) ⟨by omega, nm_e ⟨by omega, nm_e (nm_e (nm_e p))⟩⟩
        · intro post J7 h
          have p := qY post J7 h
          generalize hn : d + 1 = n at p ⊢
          simp only [wY_findRoutes_24]
          refine br_f (nI_ge (b := 32) (by omega) (by omega)) (gY _ (fun y => absurd y hl) (fun _ => nm_r (nI_1 _) p))
theorem ri_frs (HJ : ri_J J fo ft ct ej) : ∀ d a, a + d = 20 → ∀ (R : Nat) (rs rl sj se : Nat → Nat), ri_R J R rs rl sj se → ∃ (R' : Nat) (rs' rl' sj' se' : Nat → Nat), ri_R J R' rs' rl' sj' se' ∧
    (∀ post : SX → Prop, post (sX J R' fo ft ct ej ps sg rs' rl' sj' se' (ri_cbs fo ft rl' sj' se' R' cb R') st wt hd lk hg un dn) → wX_findRoutes_7 post (d + 1) (nI a) (nI J) (nI R) (ri_n fo) (ri_n ft) (ri_n ct) (ri_n ej) (ri_n ps) (ri_b sg) (ri_n rs) (ri_n rl) (ri_n sj) (ri_n se) cb (ri_b st) (ri_n wt) (ri_b hd) (ri_x lk) (ri_x hg) (ri_x un) (ri_n dn)) ∧
    (∀ post : SY → Prop, post (sY J R' fo ft sg ps rs' rl' sj' se' st wt hd lk hg un dn rv mt nx) → wY_findRoutes_7 post (d + 1) (nI a) (nI J) (nI R) (ri_n fo) (ri_n ft) (ri_b sg) (ri_n ps) (ri_n rs) (ri_n rl) (ri_n sj) (ri_n se) (ri_b st) (ri_n wt) (ri_b hd) (ri_x lk) (ri_y hg) (ri_y un) (ri_n dn) rv mt nx) := by
  intro d
  induction d with
  | zero =>
    intro a ha R rs rl sj se HR
    have e : a = 20 := by omega
    subst e
    refine ⟨R, rs, rl, sj, se, HR, ?_, ?_⟩
    · intro post h
      exact br_t (nI_le (a := 20) (b := 20) (by omega) (by omega)) (rx_fc HR.1 HR.2.2.1 HR.2.2.2.1 HR.2.2.2.2.1 HJ.2.1 HJ.2.2.1 h)
    · intro post h
      exact br_t (nI_le (a := 20) (b := 20) (by omega) (by omega)) h
  | succ d ih =>
    intro a ha R rs rl sj se HR
    by_cases z : sg a = true
    · obtain ⟨R1, rs1, rl1, sj1, se1, HR1, gX, gY⟩ := ri_frf (ps := ps) (sg := sg) (cb := cb) (st := st) (wt := wt) (hd := hd) (lk := lk) (hg := hg) (un := un) (dn := dn) (rv := rv) (mt := mt) (nx := nx) HJ (show a < 20 by omega) 32 0 rfl R rs rl sj se HR
      obtain ⟨R2, rs2, rl2, sj2, se2, HR2, qX, qY⟩ := ih (a + 1) (by omega) R1 rs1 rl1 sj1 se1 HR1
      refine ⟨R2, rs2, rl2, sj2, se2, HR2, ?_, ?_⟩
      · intro post h
        have p := qX post h
        generalize hn : d + 1 = n at p ⊢
        simp only [wX_findRoutes_7]
        simp (disch := omega) only [nI_clamp, ri_in, ri_b_ap, ri_B0, ri_le20]
        refine br_f (by omega) ⟨by omega, br_f (by rw [z]; decide) ⟨33, gX _ (nm_r (nI_1 _) p)⟩⟩
      · intro post h
        have p := qY post h
        generalize hn : d + 1 = n at p ⊢
        simp only [wY_findRoutes_7]
        simp (disch := omega) only [nI_clamp, ri_in, ri_b_ap, ri_B0, ri_le20]
        refine br_f (by omega) ⟨by omega, br_f (by rw [z]; decide) ⟨33, gY _ _ p⟩⟩
    · rw [Bool.not_eq_true] at z
      obtain ⟨R2, rs2, rl2, sj2, se2, HR2, qX, qY⟩ := ih (a + 1) (by omega) R rs rl sj se HR
      refine ⟨R2, rs2, rl2, sj2, se2, HR2, ?_, ?_⟩
      · intro post h
        have p := qX post h
        generalize hn : d + 1 = n at p ⊢
        simp only [wX_findRoutes_7]
        simp (disch := omega) only [nI_clamp, ri_in, ri_b_ap, ri_B0, ri_le20]
        refine br_f (by omega) ⟨by omega, br_t z (nm_r (nI_1 _) p)⟩
      · intro post h
        have p := qY post h
        generalize hn : d + 1 = n at p ⊢
        simp only [wY_findRoutes_7]
        simp (disch := omega) only [nI_clamp, ri_in, ri_b_ap, ri_B0, ri_le20]
        refine br_f (by omega) ⟨by omega, br_t z (nm_r (nI_1 _) p)⟩
def ri_C (R : Nat) (fo ft rl sj se : Nat → Nat) (cb : Nat → Int32) : Prop := ∀ r, r < R → cb r = nI (ri_bm (ri_row fo ft rl sj se r) R)
theorem ri_find (HJ : ri_J J fo ft ct ej) (RS : ∀ r, rs r < 20) (RL : ∀ r, rl r ≤ 5) (SJ : ∀ i, sj i < 12) (SE : ∀ i, se i < 20) : ∃ (R' : Nat) (rs' rl' sj' se' : Nat → Nat) (cb' : Nat → Int32), ri_R J R' rs' rl' sj' se' ∧ ri_C R' fo ft rl' sj' se' cb' ∧
    (∀ post : SX → Prop, post (sX J R' fo ft ct ej ps sg rs' rl' sj' se' cb' st wt hd lk hg un dn) → wpX_findRoutes post (sX J R fo ft ct ej ps sg rs rl sj se cb st wt hd lk hg un dn)) ∧
    (∀ post : SY → Prop, post (sY J R' fo ft sg ps rs' rl' sj' se' st wt hd lk hg un dn rv mt nx) → wpY_findRoutes post (sY J R fo ft sg ps rs rl sj se st wt hd lk hg un dn rv mt nx)) := by
  obtain ⟨R', rs', rl', sj', se', HR, gX, gY⟩ := ri_frs (ps := ps) (sg := sg) (cb := cb) (st := st) (wt := wt) (hd := hd) (lk := lk) (hg := hg) (un := un) (dn := dn) (rv := rv) (mt := mt) (nx := nx) HJ 20 0 rfl 0 rs rl sj se ⟨by omega, RS, RL, SJ, SE, fun r hr => by omega, fun r hr => by omega⟩
  exact ⟨R', rs', rl', sj', se', _, HR, fun r hr => ri_cbs_r R' r hr, fun post h => ⟨21, gX post h⟩, fun post h => ⟨21, gY post h⟩⟩
end
end
section
section
variable {J R : Nat} {fo ft ct ej ps : Nat → Nat} {sg : Nat → Bool} {rs rl sj se : Nat → Nat} {cb : Nat → Int32} {st : Nat → Bool} {wt : Nat → Nat} {hd : Nat → Bool} {lk hg un dn : Nat → Nat} {rv mt nx : Nat → Int32}
def ri_D (R : Nat) (rl se : Nat → Nat) (st : Nat → Bool) (wt : Nat → Nat) (hd : Nat → Bool) (lk hg un dn : Nat → Nat) : Prop :=
  (∀ t, hg t ≤ 20) ∧ (∀ t, un t ≤ 16) ∧ (∀ s, lk s ≤ 16) ∧ (∀ t, dn t ≤ 5) ∧ (∀ r, wt r ≤ 3) ∧
  (∀ r, wt r ≠ 0 → st r = true) ∧ (∀ r, st r = true → r < R) ∧
  (∀ k, hd k = true → st (k / 5) = true ∧ k % 5 < rl (k / 5)) ∧
  (∀ s, s < 10 → lk s ≠ 0 → st (lk s - 1) = true ∧ ∃ k, k < rl (lk s - 1) ∧ se (5 * (lk s - 1) + k) / 2 = s) ∧
  (∀ t, t < 3 → un t ≠ 0 → hg t ≠ 0 ∧ st (un t - 1) = true ∧ wt (un t - 1) = 0 ∧ 1 ≤ dn t ∧ dn t < rl (un t - 1) ∧ hg t = ri_op (se (5 * (un t - 1) + dn t - 1)) + 1) ∧
  (∀ t t', t < 3 → t' < 3 → un t ≠ 0 → un t = un t' → t = t')
def ri_hdR (hd : Nat → Bool) (r : Nat) : Nat → Bool := fun k => if k / 5 = r then false else hd k
def ri_lkR (lk : Nat → Nat) (r : Nat) : Nat → Nat := fun s => if s < 10 ∧ lk s = r + 1 then 0 else lk s
theorem ri_D_rel {r : Nat} (D : ri_D R rl se st wt hd lk hg un dn) (hu : ∀ t, t < 3 → un t ≠ r + 1) : ri_D R rl se (ri_u st r false) (ri_u wt r 0) (ri_hdR hd r) (ri_lkR lk r) hg un dn := by
  obtain ⟨D1, D2, D3, D4, D5, D6, D7, D8, D9, DA, DB⟩ := D
  refine ⟨D1, D2, ?_, D4, ?_, ?_, ?_, ?_, ?_, ?_, DB⟩
  · intro s; unfold ri_lkR; split
    · omega
    · exact D3 s
  · intro x; unfold ri_u; split
    · omega
    · exact D5 x
  · intro x h
    by_cases z : x = r
    · subst z; rw [ri_us] at h; exact absurd rfl h
    · rw [ri_un z] at h ⊢; exact D6 x h
  · intro x h
    by_cases z : x = r
    · subst z; rw [ri_us] at h; exact absurd h (by decide)
    · rw [ri_un z] at h; exact D7 x h
  · intro k h
    unfold ri_hdR at h
    by_cases z : k / 5 = r
    · rw [if_pos z] at h; exact absurd h (by decide)
    · rw [if_neg z] at h; rw [ri_un z]; exact D8 k h
  · intro s hs h
    unfold ri_lkR at h ⊢
    by_cases z : lk s = r + 1
    · rw [if_pos ⟨hs, z⟩] at h; exact absurd rfl h
    · rw [if_neg (fun w => z w.2)] at h ⊢
      rw [ri_un (by omega)]; exact D9 s hs h
  · intro t ht h
    have := hu t ht
    rw [ri_un (by omega), ri_un (by omega)]; exact DA t ht h
theorem rx_rstep {post : SX → Prop} {r i : Nat} (hr : r < 16) (hi : i < 5) (SE : ∀ i, se i < 20) (LK : ∀ s, lk s ≤ 16) (h1 : lk (se (5 * r + i) / 2) = r + 1 → post (sX J R fo ft ct ej ps sg rs rl sj se cb st wt (ri_u hd (5 * r + i) false) (ri_u lk (se (5 * r + i) / 2) 0) hg un dn)) (h0 : lk (se (5 * r + i) / 2) ≠ r + 1 → post (sX J R fo ft ct ej ps sg rs rl sj se cb st wt (ri_u hd (5 * r + i) false) lk hg un dn)) : wpX_releaseStep post (sX J R fo ft ct ej ps sg rs rl sj se cb st wt hd lk hg un dn) (nI r) (nI i) := by
  have h2 := SE (5 * r + i)
  have h3 := LK (se (5 * r + i) / 2)
  simp only [wpX_releaseStep]
  simp (disch := omega) only [ri_mul5, nI_add]
  refine nm_e ?_
  simp (disch := omega) only [nI_clamp, ri_in, ri_n_ap, ri_two, not_false_eq_true, true_and, ri_div2, ri_nar0, ri_upd_b]
  refine ⟨by omega, nm_e ⟨by omega, nm_e ?_⟩⟩
  simp (disch := omega) only [nI_clamp, ri_in, ri_x_ap, ri_cx_e, ri_upd_x0]
  exact ⟨by omega, br_c (fun z => ⟨by omega, nm_e (h1 z)⟩) (fun z => h0 z)⟩
theorem rx_rel {post : SX → Prop} {r : Nat} (hr : r < 16) (RL : ∀ r, rl r ≤ 5) (SE : ∀ i, se i < 20) (LK : ∀ s, lk s ≤ 16) (HH : ∀ k, hd k = true → k % 5 < rl (k / 5)) (HL : ∀ s, s < 10 → lk s = r + 1 → ∃ k, k < rl r ∧ se (5 * r + k) / 2 = s) (h : post (sX J R fo ft ct ej ps sg rs rl sj se cb (ri_u st r false) wt (ri_hdR hd r) (ri_lkR lk r) hg un dn)) : wpX_releaseRoute post (sX J R fo ft ct ej ps sg rs rl sj se cb st wt hd lk hg un dn) (nI r) := by
  have hl := RL r
  simp only [wpX_releaseRoute]
  simp (disch := omega) only [nI_clamp, ri_in, ri_nar0, ri_upd_b]
  refine ⟨hr, nm_e ?_⟩
  have W := ri_fo (fun n i => wX_releaseRoute_9 post (nI r) n (nI i) (nI J) (nI R) (ri_n fo) (ri_n ft) (ri_n ct) (ri_n ej) (ri_n ps) (ri_b sg) (ri_n rs) (ri_n rl) (ri_n sj) (ri_n se) cb (ri_b (ri_u st r false)) (ri_n wt) (ri_b (fun k => if 5 * r ≤ k ∧ k < 5 * r + i then false else hd k)) (ri_x (fun s => if ri_ba (fun k => decide (se (5 * r + k) / 2 = s)) i = true ∧ lk s = r + 1 then 0 else lk s)) (ri_x hg) (ri_x un) (ri_n dn)) (rl r) ?_ ?_
  · have e1 : (fun k => if 5 * r ≤ k ∧ k < 5 * r + 0 then false else hd k) = hd := by
      funext k; exact if_neg (by omega)
    have e2 : (fun s => if ri_ba (fun k => decide (se (5 * r + k) / 2 = s)) 0 = true ∧ lk s = r + 1 then 0 else lk s) = lk := by
      funext s; exact if_neg (fun w => absurd w.1 (by simp [ri_ba]))
    rw [e1, e2] at W
    exact W
  · intro n
    have e1 : (fun k => if 5 * r ≤ k ∧ k < 5 * r + rl r then false else hd k) = ri_hdR hd r := by
      funext k
      unfold ri_hdR
      by_cases z : 5 * r ≤ k ∧ k < 5 * r + rl r
      · rw [if_pos z, if_pos (by omega)]
      · rw [if_neg z]
        by_cases y : k / 5 = r
        · rw [if_pos y]
          cases w : hd k with
          | false => rfl
          | true => have := HH k w; rw [y] at this; omega
        · rw [if_neg y]
    have e2 : (fun s => if ri_ba (fun k => decide (se (5 * r + k) / 2 = s)) (rl r) = true ∧ lk s = r + 1 then 0 else lk s) = ri_lkR lk r := by
      funext s
      unfold ri_lkR
      by_cases y : lk s = r + 1
      · by_cases z : s < 10
        · obtain ⟨k, k1, k2⟩ := HL s z y
          rw [if_pos ⟨ri_ba_t.mpr ⟨k, k1, by simp [k2]⟩, y⟩, if_pos ⟨z, y⟩]
        · rw [if_neg, if_neg (fun w => z w.1)]
          rintro ⟨w, _⟩
          obtain ⟨k, k1, k2⟩ := ri_ba_t.mp w
          have := SE (5 * r + k)
          simp only [decide_eq_true_eq] at k2
          omega
      · rw [if_neg (fun w => y w.2), if_neg (fun w => y w.2)]
    rw [e1, e2]
    simp only [wX_releaseRoute_9]
    simp (disch := omega) only [nI_clamp, ri_in, ri_n_ap, nI_leI]
    exact ⟨hr, br_t (Nat.le_refl _) h⟩
  · intro n i hi p
    simp only [wX_releaseRoute_9]
    simp (disch := omega) only [nI_clamp, ri_in, ri_n_ap, nI_leI]
    have eh : ri_u (fun k => if 5 * r ≤ k ∧ k < 5 * r + i then false else hd k) (5 * r + i) false = (fun k => if 5 * r ≤ k ∧ k < 5 * r + (i + 1) then false else hd k) := by
      funext k
      unfold ri_u
      by_cases z : k = 5 * r + i
      · rw [if_pos z, if_pos (by omega)]
      · rw [if_neg z]
        dsimp only
        by_cases y : 5 * r ≤ k ∧ k < 5 * r + i
        · rw [if_pos y, if_pos (by omega)]
        · rw [if_neg y, if_neg (by omega)]
    refine ⟨hr, br_f (by omega) (rx_rstep hr (by omega) SE ?_ (fun z => ?_) (fun z => ?_))⟩
    · intro s; split
      · omega
      · exact LK s
    · rw [eh]
      have el : ri_u (fun s => if ri_ba (fun k => decide (se (5 * r + k) / 2 = s)) i = true ∧ lk s = r + 1 then 0 else lk s) (se (5 * r + i) / 2) 0 = (fun s => if ri_ba (fun k => decide (se (5 * r + k) / 2 = s)) (i + 1) = true ∧ lk s = r + 1 then 0 else lk s) := by
        funext s
        unfold ri_u
        by_cases y : s = se (5 * r + i) / 2
        · subst y
          rw [if_pos rfl]
          have y2 : lk (se (5 * r + i) / 2) = r + 1 := by
            split at z
            · omega
            · exact z
          rw [if_pos ⟨by simp [ri_ba], y2⟩]
        · rw [if_neg y]
          simp [ri_ba, Ne.symm y]
      rw [el]
      exact nm_r (nI_1 _) p
    · rw [eh]
      have el : (fun s => if ri_ba (fun k => decide (se (5 * r + k) / 2 = s)) i = true ∧ lk s = r + 1 then 0 else lk s) = (fun s => if ri_ba (fun k => decide (se (5 * r + k) / 2 = s)) (i + 1) = true ∧ lk s = r + 1 then 0 else lk s) := by
        funext s
        by_cases y : s = se (5 * r + i) / 2
        · subst y
          by_cases y2 : lk (se (5 * r + i) / 2) = r + 1
          · by_cases y3 : ri_ba (fun k => decide (se (5 * r + k) / 2 = se (5 * r + i) / 2)) i = true
            · rw [if_pos ⟨y3, y2⟩, if_pos ⟨by simp [ri_ba], y2⟩]
            · rw [if_neg (fun w => y3 w.1)] at z; exact absurd y2 z
          · rw [if_neg (fun w => y2 w.2), if_neg (fun w => y2 w.2)]
        · simp [ri_ba, Ne.symm y]
      rw [el] 
      exact nm_r (nI_1 _) p
theorem ry_rel {post : SY → Prop} {r : Nat} (hr : r < 16) (LK : ∀ s, lk s ≤ 16) (h : post (sY J R fo ft sg ps rs rl sj se (ri_u st r false) (ri_u wt r 0) (ri_hdR hd r) (ri_lkR lk r) hg un dn rv mt nx)) : wpY_release post (sY J R fo ft sg ps rs rl sj se st wt hd lk hg un dn rv mt nx) (nI r) := by
  simp only [wpY_release]
  simp (disch := omega) only [nI_clamp, ri_in, ri_nar0, ri_upd_b, ri_upd_n0, ri_mul5']
  refine ⟨hr, nm_e ⟨hr, nm_e (nm_e ?_)⟩⟩
  have W := ri_fo (fun n i => wY_release_18 post (nI r) (nI J) (nI R) n (nI (5 * r + i)) (ri_n fo) (ri_n ft) (ri_b sg) (ri_n ps) (ri_n rs) (ri_n rl) (ri_n sj) (ri_n se) (ri_b (ri_u st r false)) (ri_n (ri_u wt r 0)) (ri_b (fun k => if 5 * r ≤ k ∧ k < 5 * r + i then false else hd k)) (ri_x lk) (ri_y hg) (ri_y un) (ri_n dn) rv mt nx) 5 ?_ ?_
  · have e1 : (fun k => if 5 * r ≤ k ∧ k < 5 * r + 0 then false else hd k) = hd := by
      funext k; exact if_neg (by omega)
    rw [e1] at W
    exact W
  · intro n
    have e1 : (fun k => if 5 * r ≤ k ∧ k < 5 * r + 5 then false else hd k) = ri_hdR hd r := by
      funext k
      unfold ri_hdR
      by_cases z : k / 5 = r
      · rw [if_pos z, if_pos (by omega)]
      · rw [if_neg z, if_neg (by omega)]
    rw [e1]
    simp only [wY_release_18]
    simp (disch := omega) only [ri_mul5', ri_add5, nI_leI]
    refine br_t (Nat.le_refl _) ?_
    have V := ri_fo (fun n i => wY_release_42 post (nI r) (nI J) (nI R) n (nI i) (ri_n fo) (ri_n ft) (ri_b sg) (ri_n ps) (ri_n rs) (ri_n rl) (ri_n sj) (ri_n se) (ri_b (ri_u st r false)) (ri_n (ri_u wt r 0)) (ri_b (ri_hdR hd r)) (ri_x (fun s => if s < i ∧ lk s = r + 1 then 0 else lk s)) (ri_y hg) (ri_y un) (ri_n dn) rv mt nx) 10 ?_ ?_
    · have e2 : (fun s => if s < 0 ∧ lk s = r + 1 then 0 else lk s) = lk := by
        funext s; exact if_neg (by omega)
      rw [e2] at V
      exact V
    · intro n
      exact br_t (nI_le (a := 10) (b := 10) (by omega) (by omega)) h
    · intro n i hi p
      have hlk := LK i
      have e3 : (fun s => if s < i ∧ lk s = r + 1 then 0 else lk s) i = lk i := if_neg (by omega)
      simp only [wY_release_42]
      simp (disch := omega) only [nI_clamp, ri_in, ri_x_ap, ri_le10, e3, ri_cx_e, ri_upd_x0, nI_1]
      refine br_f (by omega) ⟨hi, br_c (fun z => ⟨hi, nm_e (nm_e ?_)⟩) (fun z => nm_e ?_)⟩
      · have e4 : ri_u (fun s => if s < i ∧ lk s = r + 1 then 0 else lk s) i 0 = (fun s => if s < i + 1 ∧ lk s = r + 1 then 0 else lk s) := by
          funext s
          unfold ri_u
          by_cases y : s = i
          · rw [if_pos y, if_pos ⟨by omega, by rw [y]; exact z⟩]
          · rw [if_neg y]
            by_cases w : s < i
            · simp [w, show s < i + 1 by omega]
            · simp [w, show ¬ s < i + 1 by omega]
        rw [e4]; exact p
      · have e4 : (fun s => if s < i ∧ lk s = r + 1 then 0 else lk s) = (fun s => if s < i + 1 ∧ lk s = r + 1 then 0 else lk s) := by
          funext s
          by_cases y : s = i
          · subst y; rw [if_neg (by omega), if_neg (fun w => z w.2)]
          · by_cases w : s < i
            · simp [w, show s < i + 1 by omega]
            · simp [w, show ¬ s < i + 1 by omega]
        rw [e4]; exact p
  · intro n i hi p
    simp only [wY_release_18]
    simp (disch := omega) only [ri_mul5', ri_add5, nI_leI, nI_clamp, ri_in, ri_nar0, ri_upd_b, nI_1]
    refine br_f (by omega) ⟨by omega, nm_e (nm_e ?_)⟩
    have eh : ri_u (fun k => if 5 * r ≤ k ∧ k < 5 * r + i then false else hd k) (5 * r + i) false = (fun k => if 5 * r ≤ k ∧ k < 5 * r + (i + 1) then false else hd k) := by
      funext k
      unfold ri_u
      by_cases z : k = 5 * r + i
      · rw [if_pos z, if_pos (by omega)]
      · rw [if_neg z]
        dsimp only
        by_cases y : 5 * r ≤ k ∧ k < 5 * r + i
        · rw [if_pos y, if_pos (by omega)]
        · rw [if_neg y, if_neg (by omega)]
    rw [eh]; exact p
theorem ri_HL {r : Nat} (D : ri_D R rl se st wt hd lk hg un dn) : ∀ s, s < 10 → lk s = r + 1 → ∃ k, k < rl r ∧ se (5 * r + k) / 2 = s := by
  intro s hs h
  have := (D.2.2.2.2.2.2.2.2.1 s hs (by omega)).2
  rw [h] at this
  exact this
theorem ri_HH (D : ri_D R rl se st wt hd lk hg un dn) : ∀ k, hd k = true → k % 5 < rl (k / 5) := fun k h => (D.2.2.2.2.2.2.2.1 k h).2
/-- release on both sides, from states that hold the invariant -/
theorem rx_relD {post : SX → Prop} {r : Nat} (hr : r < 16) (HR : ri_R J R rs rl sj se) (D : ri_D R rl se st wt hd lk hg un dn) (h : post (sX J R fo ft ct ej ps sg rs rl sj se cb (ri_u st r false) wt (ri_hdR hd r) (ri_lkR lk r) hg un dn)) : wpX_releaseRoute post (sX J R fo ft ct ej ps sg rs rl sj se cb st wt hd lk hg un dn) (nI r) :=
  rx_rel hr HR.2.2.1 HR.2.2.2.2.1 D.2.2.1 (ri_HH D) (ri_HL D) h
theorem ri_usedt {r : Nat} (D : ri_D R rl se st wt hd lk hg un dn) : ri_used hg un r = ri_trav un r := by
  refine ri_ba_c (fun t ht => ?_)
  by_cases z : un t = r + 1
  · have := (D.2.2.2.2.2.2.2.2.2.1 t ht (by omega)).1
    simp [z, this]
  · simp [z]
end
end
section
section
variable {J R : Nat} {fo ft ct ej ps : Nat → Nat} {sg : Nat → Bool} {rs rl sj se : Nat → Nat} {cb : Nat → Int32} {st : Nat → Bool} {wt : Nat → Nat} {hd : Nat → Bool} {lk hg un dn : Nat → Nat} {rv mt nx : Nat → Int32}
theorem ri_uu2 {α : Type} {f : Nat → α} {k : Nat} {x y : α} : ri_u (ri_u f k x) k y = ri_u f k y := by
  funext j; simp only [ri_u]; split <;> rfl
/-- a wait that changes between values that aren't 0 -/
theorem ri_D_wt {r x : Nat} (D : ri_D R rl se st wt hd lk hg un dn) (h0 : st r = true) (hu : ∀ t, t < 3 → un t ≠ r + 1) (hx : x ≤ 3) : ri_D R rl se st (ri_u wt r x) hd lk hg un dn := by
  obtain ⟨D1, D2, D3, D4, D5, D6, D7, D8, D9, DA, DB⟩ := D
  refine ⟨D1, D2, D3, D4, ?_, ?_, D7, D8, D9, ?_, DB⟩
  · intro y; unfold ri_u; split
    · omega
    · exact D5 y
  · intro y h
    by_cases z : y = r
    · rw [z]; exact h0
    · rw [ri_un z] at h; exact D6 y h
  · intro t ht h
    have := hu t ht
    rw [ri_un (by omega)]; exact DA t ht h
theorem ri_wtun {r : Nat} (D : ri_D R rl se st wt hd lk hg un dn) (h : wt r ≠ 0) : ∀ t, t < 3 → un t ≠ r + 1 := by
  intro t ht z
  have := (D.2.2.2.2.2.2.2.2.2.1 t ht (by omega)).2.2.1
  rw [z] at this
  exact h this
theorem ri_cd (HR : ri_R J R rs rl sj se) : ∀ d r, r + d = R → ∀ (st : Nat → Bool) (wt : Nat → Nat) (hd : Nat → Bool) (lk : Nat → Nat), ri_D R rl se st wt hd lk hg un dn →
    ∃ (st' : Nat → Bool) (wt' : Nat → Nat) (hd' : Nat → Bool) (lk' : Nat → Nat), ri_D R rl se st' wt' hd' lk' hg un dn ∧
    (∀ post : SX → Prop, post (sX J R fo ft ct ej ps sg rs rl sj se cb st' wt' hd' lk' hg un dn) → wX_countDownCancels_2 post (d + 1) (nI r) (nI J) (nI R) (ri_n fo) (ri_n ft) (ri_n ct) (ri_n ej) (ri_n ps) (ri_b sg) (ri_n rs) (ri_n rl) (ri_n sj) (ri_n se) cb (ri_b st) (ri_n wt) (ri_b hd) (ri_x lk) (ri_x hg) (ri_x un) (ri_n dn)) ∧
    (∀ (post : Int32 → SY → Prop) (J26 : Int32 → Int32 → Int32 → Int32 → (Nat → Int32) → (Nat → Int32) → (Nat → Int32) → (Nat → Int32) → (Nat → Int32) → (Nat → Int32) → (Nat → Int32) → (Nat → Int32) → (Nat → Int32) → (Nat → Int32) → (Nat → Int32) → (Nat → Int32) → (Nat → Int32) → (Nat → Int32) → (Nat → Int32) → (Nat → Int32) → (Nat → Int32) → (Nat → Int32) → Prop) (x2 x3 x4 : Int32), (∃ n, wY_tick_95 post J26 x2 x4 n x3 0 (nI J) (nI R) (ri_n fo) (ri_n ft) (ri_b sg) (ri_n ps) (ri_n rs) (ri_n rl) (ri_n sj) (ri_n se) (ri_b st') (ri_n wt') (ri_b hd') (ri_x lk') (ri_y hg) (ri_y un) (ri_n dn) rv mt nx) → wY_tick_35 post J26 x2 x3 x4 (d + 1) (nI r) (nI J) (nI R) (ri_n fo) (ri_n ft) (ri_b sg) (ri_n ps) (ri_n rs) (ri_n rl) (ri_n sj) (ri_n se) (ri_b st) (ri_n wt) (ri_b hd) (ri_x lk) (ri_y hg) (ri_y un) (ri_n dn) rv mt nx) := by
  have hR := HR.1
  intro d
  induction d with
  | zero =>
    intro r hr st wt hd lk D
    have e : r = R := by omega
    subst e
    refine ⟨st, wt, hd, lk, D, ?_, ?_⟩
    · intro post h
      exact br_t (nI_le (Nat.le_refl _) (by omega)) h
    · intro post J26 x2 x3 x4 h
      exact br_t (nI_le (Nat.le_refl _) (by omega)) h
  | succ d ih =>
    intro r hr st wt hd lk D
    have hw := D.2.2.2.2.1 r
    by_cases z0 : wt r = 0
    · obtain ⟨st', wt', hd', lk', D', gX, gY⟩ := ih (r + 1) (by omega) st wt hd lk D
      refine ⟨st', wt', hd', lk', D', ?_, ?_⟩
      · intro post h
        have p := gX post h
        generalize hn : d + 1 = n at p ⊢
        simp only [wX_countDownCancels_2]
        simp (disch := omega) only [nI_clamp, ri_in, ri_n_ap, nI_leI, ri_ge0, nI_1]
        exact br_f (by omega) ⟨by omega, br_t (by omega) (nm_e p)⟩
      · intro post J26 x2 x3 x4 h
        have p := gY post J26 x2 x3 x4 h
        generalize hn : d + 1 = n at p ⊢
        simp only [wY_tick_35]
        simp (disch := omega) only [nI_clamp, ri_in, ri_n_ap, nI_leI, ri_ge1, ri_eq1, nI_1]
        exact br_f (by omega) ⟨by omega, br_f (by omega) ⟨by omega, br_t (by omega) (nm_e p)⟩⟩
    · have hs := D.2.2.2.2.2.1 r z0
      have hu := ri_wtun D z0
      by_cases z1 : wt r = 1
      · obtain ⟨st', wt', hd', lk', D', gX, gY⟩ := ih (r + 1) (by omega) _ _ _ _ (ri_D_rel D hu)
        refine ⟨st', wt', hd', lk', D', ?_, ?_⟩
        · intro post h
          have p := gX post h
          generalize hn : d + 1 = n at p ⊢
          simp only [wX_countDownCancels_2]
          simp (disch := omega) only [nI_clamp, ri_in, ri_n_ap, nI_leI, ri_ge0, ri_sub1, ri_upd_n]
          refine br_f (by omega) ⟨by omega, br_f (by omega) ⟨by omega, by omega, nm_e ?_⟩⟩
          simp (disch := omega) only [ri_n_ap, ri_us]
          rw [show wt r - 1 = 0 by omega]
          exact ⟨by omega, br_t rfl (rx_relD (by omega) HR (ri_D_wt D hs hu (by omega)) (nm_r (nI_1 _) p))⟩
        · intro post J26 x2 x3 x4 h
          have p := gY post J26 x2 x3 x4 h
          generalize hn : d + 1 = n at p ⊢
          simp only [wY_tick_35]
          simp (disch := omega) only [nI_clamp, ri_in, ri_n_ap, nI_leI, ri_eq1]
          exact br_f (by omega) ⟨by omega, br_t z1 (ry_rel (by omega) D.2.2.1 (nm_r (nI_1 _) p))⟩
      · obtain ⟨st', wt', hd', lk', D', gX, gY⟩ := ih (r + 1) (by omega) _ _ _ _ (ri_D_wt D hs hu (show wt r - 1 ≤ 3 by omega))
        refine ⟨st', wt', hd', lk', D', ?_, ?_⟩
        · intro post h
          have p := gX post h
          generalize hn : d + 1 = n at p ⊢
          simp only [wX_countDownCancels_2]
          simp (disch := omega) only [nI_clamp, ri_in, ri_n_ap, nI_leI, ri_ge0, ri_sub1, ri_upd_n]
          refine br_f (by omega) ⟨by omega, br_f (by omega) ⟨by omega, by omega, nm_e ?_⟩⟩
          simp (disch := omega) only [ri_n_ap, ri_us, ri_eq0]
          exact ⟨by omega, br_f (by omega) (nm_r (nI_1 _) p)⟩
        · intro post J26 x2 x3 x4 h
          have p := gY post J26 x2 x3 x4 h
          generalize hn : d + 1 = n at p ⊢
          simp only [wY_tick_35]
          simp (disch := omega) only [nI_clamp, ri_in, ri_n_ap, nI_leI, ri_ge1, ri_eq1, ri_sub1, ri_upd_n, nI_1]
          exact br_f (by omega) ⟨by omega, br_f z1 ⟨by omega, br_f (by omega) ⟨by omega, by omega, nm_e (nm_e p)⟩⟩⟩
theorem ri_D_off {t x y : Nat} (D : ri_D R rl se st wt hd lk hg un dn) (ht : t < 3) (hx : x ≤ 20) (hy : y ≤ 5) : ri_D R rl se st wt hd lk (ri_u hg t x) (ri_u un t 0) (ri_u dn t y) := by
  obtain ⟨D1, D2, D3, D4, D5, D6, D7, D8, D9, DA, DB⟩ := D
  refine ⟨?_, ?_, D3, ?_, D5, D6, D7, D8, D9, ?_, ?_⟩
  · intro i; unfold ri_u; split
    · omega
    · exact D1 i
  · intro i; unfold ri_u; split
    · omega
    · exact D2 i
  · intro i; unfold ri_u; split
    · omega
    · exact D4 i
  · intro i hi h
    by_cases z : i = t
    · subst z; rw [ri_us] at h; exact absurd rfl h
    · rw [ri_un z] at h; rw [ri_un z, ri_un z, ri_un z]; exact DA i hi h
  · intro i k hi hk h e
    by_cases z : i = t
    · subst z; rw [ri_us] at h; exact absurd rfl h
    · rw [ri_un z] at h e
      by_cases w : k = t
      · subst w; rw [ri_us] at e; exact absurd e h
      · rw [ri_un w] at e; exact DB i k hi hk h e
theorem ri_D_on {t r k : Nat} (D : ri_D R rl se st wt hd lk hg un dn) (ht : t < 3) (hr : r < 16) (SE : ∀ i, se i < 20) (RL : ∀ r, rl r ≤ 5) (hs : st r = true) (hw : wt r = 0) (hu : ∀ i, i < 3 → i ≠ t → un i ≠ r + 1) (hk : k + 1 < rl r) : ri_D R rl se st wt hd lk (ri_u hg t (ri_op (se (5 * r + k)) + 1)) (ri_u un t (r + 1)) (ri_u dn t (k + 1)) := by
  obtain ⟨D1, D2, D3, D4, D5, D6, D7, D8, D9, DA, DB⟩ := D
  have h1 := ri_op_lt (SE (5 * r + k))
  have h2 := RL r
  refine ⟨?_, ?_, D3, ?_, D5, D6, D7, D8, D9, ?_, ?_⟩
  · intro i; unfold ri_u; split
    · omega
    · exact D1 i
  · intro i; unfold ri_u; split
    · omega
    · exact D2 i
  · intro i; unfold ri_u; split
    · omega
    · exact D4 i
  · intro i hi h
    by_cases z : i = t
    · subst z; rw [ri_us, ri_us, ri_us, Nat.add_sub_cancel]
      exact ⟨by omega, hs, hw, by omega, hk, by rw [show 5 * r + (k + 1) - 1 = 5 * r + k by omega]⟩
    · rw [ri_un z] at h; rw [ri_un z, ri_un z, ri_un z]; exact DA i hi h
  · intro i j hi hj h e
    by_cases z : i = t
    · subst z
      by_cases w : j = i
      · exact w.symm
      · rw [ri_us, ri_un w] at e; exact absurd e.symm (hu j hj w)
    · rw [ri_un z] at h e
      by_cases w : j = t
      · subst w; rw [ri_us] at e; exact absurd e (hu i hi z)
      · rw [ri_un w] at e; exact DB i j hi hj h e
theorem ri_D_clr {hd' : Nat → Bool} {lk' : Nat → Nat} (D : ri_D R rl se st wt hd lk hg un dn) (h1 : ∀ k, hd' k = true → hd k = true) (h2 : ∀ s, lk' s = 0 ∨ lk' s = lk s) : ri_D R rl se st wt hd' lk' hg un dn := by
  obtain ⟨D1, D2, D3, D4, D5, D6, D7, D8, D9, DA, DB⟩ := D
  refine ⟨D1, D2, ?_, D4, D5, D6, D7, fun k h => D8 k (h1 k h), ?_, DA, DB⟩
  · intro s
    rcases h2 s with e | e
    · omega
    · rw [e]; exact D3 s
  · intro s hs h
    rcases h2 s with e | e
    · exact absurd e h
    · rw [e] at h ⊢; exact D9 s hs h
/-- the end of a move, from an open step k of route r -/
theorem ri_mvE {t r k : Nat} (HR : ri_R J R rs rl sj se) (D : ri_D R rl se st wt hd lk hg un dn) (ht : t < 3) (hrR : r < R) (hs : st r = true) (hw : wt r = 0) (hu : ∀ i, i < 3 → i ≠ t → un i ≠ r + 1) (hk : k < rl r) :
    ∃ (st' : Nat → Bool) (wt' : Nat → Nat) (hd' : Nat → Bool) (lk' hg' un' dn' : Nat → Nat), ri_D R rl se st' wt' hd' lk' hg' un' dn' ∧
    (∀ post : SX → Prop, post (sX J R fo ft ct ej ps sg rs rl sj se cb st' wt' hd' lk' hg' un' dn') → wX_moveTrain_29 post (nI t) (nI r) (nI J) (nI R) (ri_n fo) (ri_n ft) (ri_n ct) (ri_n ej) (ri_n ps) (ri_b sg) (ri_n rs) (ri_n rl) (ri_n sj) (ri_n se) cb (ri_b st) (ri_n wt) (ri_b hd) (ri_x lk) (ri_x hg) (ri_x (ri_u un t (r + 1))) (ri_n (ri_u dn t k))) ∧
    (∀ post : Int32 → SY → Prop, post 1 (sY J R fo ft sg ps rs rl sj se st' wt' hd' lk' hg' un' dn' rv mt nx) → wY_move_105 post (nI t) (nI r) (nI k) (nI J) (nI R) (ri_n fo) (ri_n ft) (ri_b sg) (ri_n ps) (ri_n rs) (ri_n rl) (ri_n sj) (ri_n se) (ri_b st) (ri_n wt) (ri_b hd) (ri_x lk) (ri_y hg) (ri_y (ri_u un t (r + 1))) (ri_n (ri_u dn t k)) rv mt nx) := by
  have HR' := HR
  obtain ⟨hR, RS, RL, SJ, SE, R1, R2⟩ := HR'
  have h1 := RL r
  have h2 := SE (5 * r + k)
  have h3 := ri_op_lt h2
  by_cases z : k + 1 = rl r
  · have D0 := ri_D_off (x := ri_op (se (5 * r + k)) + 1) (y := k + 1) D ht (by omega) (by omega)
    have hu0 : ∀ i, i < 3 → ri_u un t 0 i ≠ r + 1 := by
      intro i hi
      by_cases y : i = t
      · subst y; rw [ri_us]; omega
      · rw [ri_un y]; exact hu i hi y
    refine ⟨_, _, _, _, _, _, _, ri_D_rel D0 hu0, ?_, ?_⟩
    · intro post h
      rw [ri_ui hw] at h
      simp only [wX_moveTrain_29]
      simp (disch := omega) only [nI_clamp, ri_in, ri_n_ap, ri_us, ri_mul5, nI_add, ri_op_x, ri_upd_xs, nI_1, ri_upd_n, ri_uu2]
      refine ⟨by omega, by omega, by omega, nm_e ⟨by omega, by omega, nm_e ?_⟩⟩
      simp (disch := omega) only [ri_n_ap, ri_us, nI_ltI, ri_upd_x0, ri_uu2]
      exact ⟨by omega, by omega, br_f (by omega) ⟨by omega, nm_e (rx_relD (by omega) HR D0 h)⟩⟩
    · intro post h
      simp only [wY_move_105]
      simp (disch := omega) only [nI_clamp, ri_in, ri_n_ap, ri_us, ri_mul5', nI_add]
      refine ⟨by omega, ?_⟩
      simp only [wpY_opposite]
      simp (disch := omega) only [nI_clamp, ri_in, ri_n_ap, ri_us, ri_op_x, ri_upd_ys, nI_1, ri_upd_n, ri_uu2]
      refine ⟨by omega, nm_e ⟨by omega, by omega, nm_e ?_⟩⟩
      simp (disch := omega) only [ri_n_ap, ri_us, nI_eq, ri_upd_y0, ri_uu2]
      exact ⟨by omega, by omega, br_t z ⟨by omega, nm_e (ry_rel (by omega) D.2.2.1 h)⟩⟩
  · refine ⟨_, _, _, _, _, _, _, ri_D_on D ht (by omega) SE RL hs hw hu (show k + 1 < rl r by omega), ?_, ?_⟩
    · intro post h
      simp only [wX_moveTrain_29]
      simp (disch := omega) only [nI_clamp, ri_in, ri_n_ap, ri_us, ri_mul5, nI_add, ri_op_x, ri_upd_xs, nI_1, ri_upd_n, ri_uu2]
      refine ⟨by omega, by omega, by omega, nm_e ⟨by omega, by omega, nm_e ?_⟩⟩
      simp (disch := omega) only [ri_n_ap, ri_us, nI_ltI, ri_upd_x0, ri_uu2]
      exact ⟨by omega, by omega, br_t (by omega) h⟩
    · intro post h
      simp only [wY_move_105]
      simp (disch := omega) only [nI_clamp, ri_in, ri_n_ap, ri_us, ri_mul5', nI_add]
      refine ⟨by omega, ?_⟩
      simp only [wpY_opposite]
      simp (disch := omega) only [nI_clamp, ri_in, ri_n_ap, ri_us, ri_op_x, ri_upd_ys, nI_1, ri_upd_n, ri_uu2]
      refine ⟨by omega, nm_e ⟨by omega, by omega, nm_e ?_⟩⟩
      simp (disch := omega) only [ri_n_ap, ri_us, nI_eq, ri_upd_y0, ri_uu2]
      exact ⟨by omega, by omega, br_f z h⟩
end
end
section
section
variable {J R : Nat} {fo ft ct ej ps : Nat → Nat} {sg : Nat → Bool} {rs rl sj se : Nat → Nat} {cb : Nat → Int32} {st : Nat → Bool} {wt : Nat → Nat} {hd : Nat → Bool} {lk hg un dn : Nat → Nat} {rv mt nx : Nat → Int32}
theorem ri_mv {t : Nat} (HR : ri_R J R rs rl sj se) (D : ri_D R rl se st wt hd lk hg un dn) (ht : t < 3) :
    ∃ (mv : Bool) (st' : Nat → Bool) (wt' : Nat → Nat) (hd' : Nat → Bool) (lk' hg' un' dn' : Nat → Nat), ri_D R rl se st' wt' hd' lk' hg' un' dn' ∧
    (∀ (post : Int32 → SX → Prop) (n p : Nat), wX_moveTrains_4 post n (nI (p + mv.toNat)) (nI (t + 1)) (nI J) (nI R) (ri_n fo) (ri_n ft) (ri_n ct) (ri_n ej) (ri_n ps) (ri_b sg) (ri_n rs) (ri_n rl) (ri_n sj) (ri_n se) cb (ri_b st') (ri_n wt') (ri_b hd') (ri_x lk') (ri_x hg') (ri_x un') (ri_n dn') → wX_moveTrains_4 post (n + 1) (nI p) (nI t) (nI J) (nI R) (ri_n fo) (ri_n ft) (ri_n ct) (ri_n ej) (ri_n ps) (ri_b sg) (ri_n rs) (ri_n rl) (ri_n sj) (ri_n se) cb (ri_b st) (ri_n wt) (ri_b hd) (ri_x lk) (ri_x hg) (ri_x un) (ri_n dn)) ∧
    (∀ post : Int32 → SY → Prop, post (ri_B mv) (sY J R fo ft sg ps rs rl sj se st' wt' hd' lk' hg' un' dn' rv mt nx) → wpY_move post (sY J R fo ft sg ps rs rl sj se st wt hd lk hg un dn rv mt nx) (nI t)) := by
  have HR' := HR
  have D' := D
  obtain ⟨hR, RS, RL, SJ, SE, R1, R2⟩ := HR'
  obtain ⟨D1, D2, D3, D4, D5, D6, D7, D8, D9, DA, DB⟩ := D'
  have hgt := D1 t
  have hut := D2 t
  have hdt := D4 t
  by_cases zh : hg t = 0
  · have zu : un t = 0 := by
      by_cases y : un t = 0
      · exact y
      · exact absurd zh (DA t ht y).1
    refine ⟨false, st, wt, hd, lk, hg, un, dn, D, ?_, ?_⟩
    · intro post n p h
      simp only [wX_moveTrains_4, wX_moveTrains_54]
      simp (disch := omega) only [nI_clamp, ri_in, ri_x_ap, ri_cx_z, ri_le3, nI_1]
      exact br_f (by omega) ⟨ht, br_t zh ⟨ht, br_t zu (nm_e h)⟩⟩
    · intro post h
      simp only [wpY_move]
      simp (disch := omega) only [nI_clamp, ri_in, ri_y_ap, ri_cy_g]
      exact ⟨ht, br_f (by omega) h⟩
  · by_cases zu : un t = 0
    · -- a new route, or none
      have ev : ri_ff (fun r => decide (rs r = hg t - 1) && (st r && (decide (wt r = 0) && !ri_used hg un r))) R = ri_ff (fun r => decide (rs r = hg t - 1) && (st r && (decide (wt r = 0) && !ri_trav un r))) R :=
        ri_ff_c (fun r _ => by rw [ri_usedt D])
      have hvi := ri_ff_i (f := fun r => decide (rs r = hg t - 1) && (st r && (decide (wt r = 0) && !ri_trav un r))) R
      generalize hv : ri_ff (fun r => decide (rs r = hg t - 1) && (st r && (decide (wt r = 0) && !ri_trav un r))) R = v at ev hvi
      have hv16 : v ≤ 16 := by
        by_cases y : v = 0
        · omega
        · have := (hvi y).1; omega
      have openX : ∀ (post : Int32 → SX → Prop) (n p : Nat), ((v = 0 → wX_moveTrains_4 post n (nI p) (nI (t + 1)) (nI J) (nI R) (ri_n fo) (ri_n ft) (ri_n ct) (ri_n ej) (ri_n ps) (ri_b sg) (ri_n rs) (ri_n rl) (ri_n sj) (ri_n se) cb (ri_b st) (ri_n wt) (ri_b hd) (ri_x lk) (ri_x hg) (ri_x (ri_u un t v)) (ri_n (ri_u dn t 0))) ∧ (v ≠ 0 → wX_moveTrain_29 (fun u => match u with | (x1, x2, x3, x4, x5, x6, x7, x8, x9, y0, y1, y2, y3, y4, y5, y6, y7, y8, y9, z0) => wX_moveTrains_4 post n (nI (p + 1)) (nI (t + 1)) x1 x2 x3 x4 x5 x6 x7 x8 x9 y0 y1 y2 y3 y4 y5 y6 y7 y8 y9 z0) (nI t) (nI (v - 1)) (nI J) (nI R) (ri_n fo) (ri_n ft) (ri_n ct) (ri_n ej) (ri_n ps) (ri_b sg) (ri_n rs) (ri_n rl) (ri_n sj) (ri_n se) cb (ri_b st) (ri_n wt) (ri_b hd) (ri_x lk) (ri_x hg) (ri_x (ri_u un t v)) (ri_n (ri_u dn t 0)))) → wX_moveTrains_4 post (n + 1) (nI p) (nI t) (nI J) (nI R) (ri_n fo) (ri_n ft) (ri_n ct) (ri_n ej) (ri_n ps) (ri_b sg) (ri_n rs) (ri_n rl) (ri_n sj) (ri_n se) cb (ri_b st) (ri_n wt) (ri_b hd) (ri_x lk) (ri_x hg) (ri_x un) (ri_n dn) := by
        intro post n p H
        simp only [wX_moveTrains_4, wX_moveTrains_54]
        simp (disch := omega) only [nI_clamp, ri_in, ri_x_ap, ri_cx_z, ri_le3, nI_1, ri_cx_p zh]
        simp (disch := omega) only [ri_nm2, false_implies, not_false_eq_true, true_implies, true_and]
        refine br_f (by omega) ⟨ht, ht, br_t zu ⟨ht, rx_open (by omega) hR RS D5 D2 ?_⟩⟩
        rw [hv]
        simp (disch := omega) only [ri_upd_x, ri_upd_n0, ri_in]
        refine ⟨ht, nm_e ⟨ht, nm_e ⟨ht, ?_⟩⟩⟩
        simp (disch := omega) only [ri_x_ap, ri_us, ri_cx_z]
        refine br_c (fun y => nm_e (H.1 y)) (fun y => ?_)
        have H2 := H.2 y
        simp only [wpX_moveTrain]
        simp (disch := omega) only [nI_clamp, ri_in, ri_x_ap, ri_us, ri_cx_p y]
        refine ⟨ht, nm_e ⟨ht, ?_⟩⟩
        simp (disch := omega) only [ri_n_ap, ri_us]
        refine br_t (by decide) ?_
        refine Eq.mp ?_ H2
        congr 1
        funext u
        obtain ⟨x1, x2, x3, x4, x5, x6, x7, x8, x9, y0, y1, y2, y3, y4, y5, y6, y7, y8, y9, z0⟩ := u
        simp only [forall_eq]
      have openY : ∀ (post : Int32 → SY → Prop), ((v = 0 → post 0 (sY J R fo ft sg ps rs rl sj se st wt hd lk hg (ri_u un t v) (ri_u dn t 0) rv mt nx)) ∧ (v ≠ 0 → wY_move_105 post (nI t) (nI (v - 1)) (nI 0) (nI J) (nI R) (ri_n fo) (ri_n ft) (ri_b sg) (ri_n ps) (ri_n rs) (ri_n rl) (ri_n sj) (ri_n se) (ri_b st) (ri_n wt) (ri_b hd) (ri_x lk) (ri_y hg) (ri_y (ri_u un t v)) (ri_n (ri_u dn t 0)) rv mt nx)) → wpY_move post (sY J R fo ft sg ps rs rl sj se st wt hd lk hg un dn rv mt nx) (nI t) := by
        intro post H
        simp only [wpY_move]
        simp (disch := omega) only [nI_clamp, ri_in, ri_y_ap, ri_cy_g]
        refine ⟨ht, br_t zh ⟨ht, br_f (by omega) (ry_rfor ht zh hR D1 RS D5 D2 ?_)⟩⟩
        rw [ev]
        simp (disch := omega) only [ri_upd_y, ri_upd_n0, ri_in]
        refine ⟨ht, nm_e ⟨ht, nm_e ?_⟩⟩
        simp only [wY_move_38]
        simp (disch := omega) only [nI_clamp, ri_in, ri_y_ap, ri_us, ri_cy_g, ri_cy_p zh, ri_div2]
        refine ⟨ht, nm_e ?_⟩
        simp (disch := omega) only [ri_cy_g]
        refine br_c (fun y => ⟨ht, by decide, nm_e ⟨ht, nm_e ?_⟩⟩) (fun y => H.1 (by omega))
        have hs9 := D3 ((hg t - 1) / 2)
        obtain ⟨v1, v2⟩ := hvi y
        simp only [Bool.and_eq_true, decide_eq_true_eq, Bool.not_eq_true'] at v2
        simp (disch := omega) only [nI_clamp, ri_in, ri_x_ap, ri_n_ap, ri_us, ri_cy_p y, ri_cx_e]
        refine ⟨by omega, br_f ?_ ?_⟩
        · intro w
          obtain ⟨k, k1, k2⟩ := ri_HL D _ (by omega) w
          have := (R2 (v - 1) v1 k k1).2
          rw [v2.1] at this
          exact this k2
        · simp only [wY_move_86]
          exact br_t (by decide) (H.2 y)
      by_cases zv : v = 0
      · refine ⟨false, st, wt, hd, lk, hg, ri_u un t v, ri_u dn t 0, ?_, ?_, ?_⟩
        · have := ri_D_off (x := hg t) (y := 0) D ht (by omega) (by omega)
          rw [ri_ui rfl] at this
          rw [zv]; exact this
        · intro post n p h
          exact openX post n p ⟨fun _ => h, fun y => absurd zv y⟩
        · intro post h
          exact openY post ⟨fun _ => h, fun y => absurd zv y⟩
      · obtain ⟨v1, v2⟩ := hvi zv
        simp only [Bool.and_eq_true, decide_eq_true_eq, Bool.not_eq_true'] at v2
        have hu : ∀ i, i < 3 → i ≠ t → un i ≠ v - 1 + 1 := by
          intro i hi _ w
          have := ri_ba_f.mp v2.2.2.2 i hi
          simp only [decide_eq_false_iff_not] at this
          exact this w
        obtain ⟨st', wt', hd', lk', hg', un', dn', E, gX, gY⟩ := ri_mvE (fo := fo) (ft := ft) (ct := ct) (ej := ej) (ps := ps) (sg := sg) (cb := cb) (rv := rv) (mt := mt) (nx := nx) (k := 0) HR D ht v1 v2.2.1 v2.2.2.1 hu (by have := R1 (v - 1) v1; omega)
        rw [show v - 1 + 1 = v by omega] at gX gY
        refine ⟨true, st', wt', hd', lk', hg', un', dn', E, ?_, ?_⟩
        · intro post n p h
          exact openX post n p ⟨fun y => absurd y zv, fun _ => gX _ h⟩
        · intro post h
          exact openY post ⟨fun y => absurd y zv, fun _ => gY _ h⟩
    · -- under way
      obtain ⟨a1, a2, a3, a4, a5, a6⟩ := DA t ht zu
      have hrR := D7 _ a2
      obtain ⟨r, hr⟩ : ∃ r, un t = r + 1 := ⟨un t - 1, by omega⟩
      rw [hr, Nat.add_sub_cancel] at a2 a3 a5 a6 hrR
      obtain ⟨k, hk⟩ : ∃ k, dn t = k + 1 := ⟨dn t - 1, by omega⟩
      rw [hk] at a5 a6
      rw [show 5 * r + (k + 1) - 1 = 5 * r + k by omega] at a6
      have hl5 := RL r
      have hse := SE (5 * r + k)
      have hop := ri_op_d (se (5 * r + k))
      have hsec : (hg t - 1) / 2 = se (5 * r + k) / 2 := by rw [a6, Nat.add_sub_cancel]; exact hop
      have hu : ∀ i, i < 3 → i ≠ t → un i ≠ r + 1 := by
        intro i hi hne w
        exact hne (DB i t hi ht (by omega) (by omega))
      have eu : ri_u un t (r + 1) = un := ri_ui hr
      have ed : ri_u dn t (k + 1) = dn := ri_ui hk
      have hlk := D3 (se (5 * r + k) / 2)
      have openX : ∀ (post : Int32 → SX → Prop) (n p : Nat) (lk1 : Nat → Nat), (lk (se (5 * r + k) / 2) = r + 1 → lk1 = ri_u lk (se (5 * r + k) / 2) 0) → (lk (se (5 * r + k) / 2) ≠ r + 1 → lk1 = lk) → wX_moveTrain_29 (fun u => match u with | (x1, x2, x3, x4, x5, x6, x7, x8, x9, y0, y1, y2, y3, y4, y5, y6, y7, y8, y9, z0) => wX_moveTrains_4 post n (nI (p + 1)) (nI (t + 1)) x1 x2 x3 x4 x5 x6 x7 x8 x9 y0 y1 y2 y3 y4 y5 y6 y7 y8 y9 z0) (nI t) (nI r) (nI J) (nI R) (ri_n fo) (ri_n ft) (ri_n ct) (ri_n ej) (ri_n ps) (ri_b sg) (ri_n rs) (ri_n rl) (ri_n sj) (ri_n se) cb (ri_b st) (ri_n wt) (ri_b (ri_u hd (5 * r + k) false)) (ri_x lk1) (ri_x hg) (ri_x un) (ri_n dn) → wX_moveTrains_4 post (n + 1) (nI p) (nI t) (nI J) (nI R) (ri_n fo) (ri_n ft) (ri_n ct) (ri_n ej) (ri_n ps) (ri_b sg) (ri_n rs) (ri_n rl) (ri_n sj) (ri_n se) cb (ri_b st) (ri_n wt) (ri_b hd) (ri_x lk) (ri_x hg) (ri_x un) (ri_n dn) := by
        intro post n p lk1 e1 e0 H
        simp only [wX_moveTrains_4, wX_moveTrains_54]
        simp (disch := omega) only [nI_clamp, ri_in, ri_x_ap, ri_cx_z, ri_le3, nI_1]
        refine br_f (by omega) ⟨ht, br_f zh ⟨ht, br_f zu ⟨ht, br_f zu ?_⟩⟩⟩
        simp only [wpX_moveTrain]
        simp (disch := omega) only [nI_clamp, ri_in, ri_x_ap, ri_n_ap, hr, hk, ri_cx_s, ri_ge0, ri_sub1, Nat.add_sub_cancel]
        refine ⟨ht, nm_e ⟨ht, br_f (by omega) ⟨ht, ?_⟩⟩⟩
        have fin : ∀ lk2 : Nat → Nat, lk1 = lk2 → wX_moveTrain_29 (fun u => match u with | (x1, x2, x3, x4, x5, x6, x7, x8, x9, y0, y1, y2, y3, y4, y5, y6, y7, y8, y9, z0) => (∀ x1_28 : Int32, x1_28 = nI (p + 1) → ∀ x2_29 : Int32, x2_29 = nI (t + 1) → wX_moveTrains_4 post n x1_28 x2_29 x1 x2 x3 x4 x5 x6 x7 x8 x9 y0 y1 y2 y3 y4 y5 y6 y7 y8 y9 z0)) (nI t) (nI r) (nI J) (nI R) (ri_n fo) (ri_n ft) (ri_n ct) (ri_n ej) (ri_n ps) (ri_b sg) (ri_n rs) (ri_n rl) (ri_n sj) (ri_n se) cb (ri_b st) (ri_n wt) (ri_b (ri_u hd (5 * r + k) false)) (ri_x lk2) (ri_x hg) (ri_x un) (ri_n dn) := by
          intro lk2 e
          subst e
          refine Eq.mp ?_ H
          congr 1
          funext u
          obtain ⟨x1, x2, x3, x4, x5, x6, x7, x8, x9, y0, y1, y2, y3, y4, y5, y6, y7, y8, y9, z0⟩ := u
          simp only [forall_eq]
        exact rx_rstep (by omega) (by omega) SE D3 (fun w => fin _ (e1 w)) (fun w => fin _ (e0 w))
      have openY : ∀ (post : Int32 → SY → Prop) (lk1 : Nat → Nat), (lk (se (5 * r + k) / 2) = r + 1 → lk1 = ri_u lk (se (5 * r + k) / 2) 0) → (lk (se (5 * r + k) / 2) ≠ r + 1 → lk1 = lk) → wY_move_105 post (nI t) (nI r) (nI (k + 1)) (nI J) (nI R) (ri_n fo) (ri_n ft) (ri_b sg) (ri_n ps) (ri_n rs) (ri_n rl) (ri_n sj) (ri_n se) (ri_b st) (ri_n wt) (ri_b (ri_u hd (5 * r + k) false)) (ri_x lk1) (ri_y hg) (ri_y un) (ri_n dn) rv mt nx → wpY_move post (sY J R fo ft sg ps rs rl sj se st wt hd lk hg un dn rv mt nx) (nI t) := by
        intro post lk1 e1 e0 H
        have T : ∀ lk2 : Nat → Nat, lk1 = lk2 → wY_move_86 post (nI t) (nI r) (nI (k + 1)) (nI J) (nI R) (ri_n fo) (ri_n ft) (ri_b sg) (ri_n ps) (ri_n rs) (ri_n rl) (ri_n sj) (ri_n se) (ri_b st) (ri_n wt) (ri_b hd) (ri_x lk2) (ri_y hg) (ri_y un) (ri_n dn) rv mt nx := by
          intro lk2 e
          subst e
          simp only [wY_move_86]
          simp (disch := omega) only [ri_mul5', nI_add, ri_sub1, nI_clamp, ri_in, ri_nar0, ri_upd_b, ri_ge0]
          rw [show 5 * r + (k + 1) - 1 = 5 * r + k by omega]
          exact br_f (by omega) ⟨by omega, nm_e H⟩
        simp only [wpY_move]
        simp (disch := omega) only [nI_clamp, ri_in, ri_y_ap, ri_cy_g]
        refine ⟨ht, br_t zh ⟨ht, br_t zu ?_⟩⟩
        simp only [wY_move_38]
        simp (disch := omega) only [nI_clamp, ri_in, ri_y_ap, ri_n_ap, hr, hk, ri_cy_s, ri_cy_p zh, ri_div2, hsec]
        refine ⟨ht, nm_e ?_⟩
        refine br_t (nI_pos' (by omega)) ⟨ht, by decide, nm_e ⟨ht, nm_e ?_⟩⟩
        simp (disch := omega) only [nI_clamp, ri_in, ri_x_ap, ri_cx_e, ri_upd_x0]
        exact ⟨by omega, br_c (fun w => ⟨by omega, nm_e (T _ (e1 w))⟩) (fun w => T _ (e0 w))⟩
      obtain ⟨lk1, e1, e0, e2⟩ : ∃ lk1 : Nat → Nat, (lk (se (5 * r + k) / 2) = r + 1 → lk1 = ri_u lk (se (5 * r + k) / 2) 0) ∧ (lk (se (5 * r + k) / 2) ≠ r + 1 → lk1 = lk) ∧ (∀ s, lk1 s = 0 ∨ lk1 s = lk s) := by
        by_cases w : lk (se (5 * r + k) / 2) = r + 1
        · refine ⟨_, fun _ => rfl, fun y => absurd w y, fun s => ?_⟩
          unfold ri_u; split
          · exact Or.inl rfl
          · exact Or.inr rfl
        · exact ⟨lk, fun y => absurd y w, fun _ => rfl, fun s => Or.inr rfl⟩
      have Dc : ri_D R rl se st wt (ri_u hd (5 * r + k) false) lk1 hg un dn := by
        refine ri_D_clr D (fun x h => ?_) e2
        by_cases y : x = 5 * r + k
        · subst y; rw [ri_us] at h; exact absurd h (by decide)
        · rw [ri_un y] at h; exact h
      obtain ⟨st', wt', hd', lk', hg', un', dn', E, gX, gY⟩ := ri_mvE (fo := fo) (ft := ft) (ct := ct) (ej := ej) (ps := ps) (sg := sg) (cb := cb) (rv := rv) (mt := mt) (nx := nx) (k := k + 1) HR Dc ht hrR a2 a3 hu a5
      rw [eu, ed] at gX gY
      refine ⟨true, st', wt', hd', lk', hg', un', dn', E, ?_, ?_⟩
      · intro post n p h
        exact openX post n p lk1 e1 e0 (gX _ h)
      · intro post h
        exact openY post lk1 e1 e0 (gY _ h)
end
end
section
section
variable {J R : Nat} {fo ft ct ej ps : Nat → Nat} {sg : Nat → Bool} {rs rl sj se : Nat → Nat} {cb : Nat → Int32} {st : Nat → Bool} {wt : Nat → Nat} {hd : Nat → Bool} {lk hg un dn : Nat → Nat} {rv mt nx : Nat → Int32}
theorem ri_mvs (HR : ri_R J R rs rl sj se) : ∀ d t, t + d = 3 → ∀ (st : Nat → Bool) (wt : Nat → Nat) (hd : Nat → Bool) (lk hg un dn : Nat → Nat), ri_D R rl se st wt hd lk hg un dn →
    ∃ (q : Nat) (st' : Nat → Bool) (wt' : Nat → Nat) (hd' : Nat → Bool) (lk' hg' un' dn' : Nat → Nat), ri_D R rl se st' wt' hd' lk' hg' un' dn' ∧
    (∀ (post : Int32 → SX → Prop) (p : Nat), post (nI (p + q)) (sX J R fo ft ct ej ps sg rs rl sj se cb st' wt' hd' lk' hg' un' dn') → wX_moveTrains_4 post (d + 1) (nI p) (nI t) (nI J) (nI R) (ri_n fo) (ri_n ft) (ri_n ct) (ri_n ej) (ri_n ps) (ri_b sg) (ri_n rs) (ri_n rl) (ri_n sj) (ri_n se) cb (ri_b st) (ri_n wt) (ri_b hd) (ri_x lk) (ri_x hg) (ri_x un) (ri_n dn)) ∧
    (∀ (post : Int32 → SY → Prop) (J26 : Int32 → Int32 → Int32 → Int32 → (Nat → Int32) → (Nat → Int32) → (Nat → Int32) → (Nat → Int32) → (Nat → Int32) → (Nat → Int32) → (Nat → Int32) → (Nat → Int32) → (Nat → Int32) → (Nat → Int32) → (Nat → Int32) → (Nat → Int32) → (Nat → Int32) → (Nat → Int32) → (Nat → Int32) → (Nat → Int32) → (Nat → Int32) → (Nat → Int32) → Prop) (x2 : Int32) (x4 p : Nat), J26 (nI (p + q)) (nI (x4 + 1)) (nI J) (nI R) (ri_n fo) (ri_n ft) (ri_b sg) (ri_n ps) (ri_n rs) (ri_n rl) (ri_n sj) (ri_n se) (ri_b st') (ri_n wt') (ri_b hd') (ri_x lk') (ri_y hg') (ri_y un') (ri_n dn') rv mt nx → wY_tick_95 post J26 x2 (nI x4) (d + 1) (nI p) (nI t) (nI J) (nI R) (ri_n fo) (ri_n ft) (ri_b sg) (ri_n ps) (ri_n rs) (ri_n rl) (ri_n sj) (ri_n se) (ri_b st) (ri_n wt) (ri_b hd) (ri_x lk) (ri_y hg) (ri_y un) (ri_n dn) rv mt nx) := by
  intro d
  induction d with
  | zero =>
    intro t ht st wt hd lk hg un dn D
    have e : t = 3 := by omega
    subst e
    refine ⟨0, st, wt, hd, lk, hg, un, dn, D, ?_, ?_⟩
    · intro post p h
      exact br_t (nI_le (a := 3) (b := 3) (by omega) (by omega)) h
    · intro post J26 x2 x4 p h
      exact br_t (nI_le (a := 3) (b := 3) (by omega) (by omega)) (nm_r (nI_1 _) h)
  | succ d ih =>
    intro t ht st wt hd lk hg un dn D
    obtain ⟨mv, st1, wt1, hd1, lk1, hg1, un1, dn1, D1, gX, gY⟩ := ri_mv (fo := fo) (ft := ft) (ct := ct) (ej := ej) (ps := ps) (sg := sg) (cb := cb) (rv := rv) (mt := mt) (nx := nx) HR D (show t < 3 by omega)
    obtain ⟨q, st2, wt2, hd2, lk2, hg2, un2, dn2, D2, qX, qY⟩ := ih (t + 1) (by omega) st1 wt1 hd1 lk1 hg1 un1 dn1 D1
    refine ⟨mv.toNat + q, st2, wt2, hd2, lk2, hg2, un2, dn2, D2, ?_, ?_⟩
    · intro post p h
      rw [← Nat.add_assoc] at h
      exact gX post (d + 1) p (qX post _ h)
    · intro post J26 x2 x4 p h
      rw [← Nat.add_assoc] at h
      have w := qY post J26 x2 x4 (p + mv.toNat) h
      generalize hn : d + 1 = n at w ⊢
      simp only [wY_tick_95]
      refine br_f (nI_ge (b := 3) (by omega) (by omega)) (gY _ ?_)
      cases mv with
      | false => exact br_t rfl (nm_r (nI_1 _) w)
      | true => exact br_f (by decide) (nm_r (nI_1 _) (nm_r (nI_1 _) w))
theorem ri_tck {v : Int32} {c : Nat} (HR : ri_R J R rs rl sj se) (hc : c ≤ 20) (hlt : ∀ i, i < c → ¬ v ≤ nI i) (hend : v ≤ nI c ∨ c = 20) : ∀ d i, i + d = c → ∀ (st : Nat → Bool) (wt : Nat → Nat) (hd : Nat → Bool) (lk hg un dn : Nat → Nat) (p : Nat), ri_D R rl se st wt hd lk hg un dn →
    ∃ (q : Nat) (st' : Nat → Bool) (wt' : Nat → Nat) (hd' : Nat → Bool) (lk' hg' un' dn' : Nat → Nat), ri_D R rl se st' wt' hd' lk' hg' un' dn' ∧
    (∀ (post : Int32 → SX → Prop), post (nI q) (sX J R fo ft ct ej ps sg rs rl sj se cb st' wt' hd' lk' hg' un' dn') → wX_tick_4 post v (d + 1) (nI p) (nI i) (nI J) (nI R) (ri_n fo) (ri_n ft) (ri_n ct) (ri_n ej) (ri_n ps) (ri_b sg) (ri_n rs) (ri_n rl) (ri_n sj) (ri_n se) cb (ri_b st) (ri_n wt) (ri_b hd) (ri_x lk) (ri_x hg) (ri_x un) (ri_n dn)) ∧
    (∀ (post : Int32 → SY → Prop), post (nI q) (sY J R fo ft sg ps rs rl sj se st' wt' hd' lk' hg' un' dn' rv mt nx) → wY_tick_26 post (nI c) (d + 1) (nI p) (nI i) (nI J) (nI R) (ri_n fo) (ri_n ft) (ri_b sg) (ri_n ps) (ri_n rs) (ri_n rl) (ri_n sj) (ri_n se) (ri_b st) (ri_n wt) (ri_b hd) (ri_x lk) (ri_y hg) (ri_y un) (ri_n dn) rv mt nx) := by
  intro d
  induction d with
  | zero =>
    intro i hi st wt hd lk hg un dn p D
    have e : i = c := by omega
    subst e
    refine ⟨p, st, wt, hd, lk, hg, un, dn, D, ?_, ?_⟩
    · intro post h
      simp only [wX_tick_4]
      rcases hend with z | z
      · exact br_t z h
      · exact br_c (fun _ => h) (fun _ => br_t (by rw [z]; exact nI_le (a := 20) (b := 20) (by omega) (by omega)) h)
    · intro post h
      exact br_t (nI_le (Nat.le_refl _) (by omega)) h
  | succ d ih =>
    intro i hi st wt hd lk hg un dn p D
    obtain ⟨st1, wt1, hd1, lk1, D1, cX, cY⟩ := ri_cd (fo := fo) (ft := ft) (ct := ct) (ej := ej) (ps := ps) (sg := sg) (cb := cb) (rv := rv) (mt := mt) (nx := nx) HR R 0 (by omega) st wt hd lk D
    obtain ⟨q1, st2, wt2, hd2, lk2, hg2, un2, dn2, D2, mX, mY⟩ := ri_mvs (fo := fo) (ft := ft) (ct := ct) (ej := ej) (ps := ps) (sg := sg) (cb := cb) (rv := rv) (mt := mt) (nx := nx) HR 3 0 (by omega) st1 wt1 hd1 lk1 hg un dn D1
    obtain ⟨q, st3, wt3, hd3, lk3, hg3, un3, dn3, D3, tX, tY⟩ := ih (i + 1) (by omega) st2 wt2 hd2 lk2 hg2 un2 dn2 (p + q1) D2
    refine ⟨q, st3, wt3, hd3, lk3, hg3, un3, dn3, D3, ?_, ?_⟩
    · intro post h
      have w := tX post h
      generalize hn : d + 1 = n at w ⊢
      simp only [wX_tick_4]
      refine br_f (hlt i (by omega)) (br_f (nI_ge (b := 20) (by omega) (by omega)) ?_)
      refine ⟨_, cX _ ⟨_, mX _ 0 (nm_r (e' := nI (p + q1)) ?_ (nm_r (nI_1 _) w))⟩⟩
      rw [nI_add, Nat.zero_add]
    · intro post h
      have w := tY post h
      generalize hn : d + 1 = n at w ⊢
      simp only [wY_tick_26]
      exact br_f (nI_ge (by omega) (by omega)) ⟨_, cY _ _ _ _ _ ⟨_, mY _ _ _ _ _ w⟩⟩
/-! cancel -/
theorem rx_cancel {post : Int32 → SX → Prop} {r : Nat} (hr : r < R) (HR : ri_R J R rs rl sj se) (D : ri_D R rl se st wt hd lk hg un dn) (h0 : (st r = false ∨ wt r ≠ 0 ∨ ri_trav un r = true) → post 0 (sX J R fo ft ct ej ps sg rs rl sj se cb st wt hd lk hg un dn)) (h1 : st r = true → wt r = 0 → ri_trav un r = false → ri_hfor hg (rs r) = true → post 1 (sX J R fo ft ct ej ps sg rs rl sj se cb st (ri_u wt r 3) hd lk hg un dn)) (h2 : st r = true → wt r = 0 → ri_trav un r = false → ri_hfor hg (rs r) = false → post 1 (sX J R fo ft ct ej ps sg rs rl sj se cb (ri_u st r false) wt (ri_hdR hd r) (ri_lkR lk r) hg un dn)) : wpX_cancel post (sX J R fo ft ct ej ps sg rs rl sj se cb st wt hd lk hg un dn) (nI r) := by
  have hR := HR.1
  have hw := D.2.2.2.2.1 r
  have hrs := HR.2.1 r
  simp only [wpX_cancel]
  refine rx_isR1 hR hr (br_f (by decide) ?_)
  simp (disch := omega) only [nI_clamp, ri_in, ri_b_ap, ri_B0, ri_n_ap, ri_lt0]
  refine ⟨by omega, br_c (fun z => h0 (Or.inl z)) (fun z => ⟨by omega, br_c (fun y => h0 (Or.inr (Or.inl (by omega)))) (fun y => rx_trav (by omega) D.2.1 ?_)⟩)⟩
  rw [Bool.not_eq_false] at z
  simp only [ri_B0]
  refine br_c (fun w => ⟨by omega, rx_hfor (by omega) D.1 ?_⟩) (fun w => h0 (Or.inr (Or.inr ?_)))
  · simp only [ri_B0]
    refine br_c (fun x => rx_relD (by omega) HR D (h2 z (by omega) w x)) (fun x => ⟨by omega, ?_⟩)
    rw [Bool.not_eq_false] at x
    rw [ri_upd_n3]
    exact nm_e (h1 z (by omega) w x)
  · rw [Bool.not_eq_false] at w; exact w
theorem ry_cancel {post : Int32 → SY → Prop} {r : Nat} (hr : r < R) (HR : ri_R J R rs rl sj se) (D : ri_D R rl se st wt hd lk hg un dn) (h0 : (st r = false ∨ wt r ≠ 0 ∨ ri_trav un r = true) → post 0 (sY J R fo ft sg ps rs rl sj se st wt hd lk hg un dn rv mt nx)) (h1 : st r = true → wt r = 0 → ri_trav un r = false → ri_hfor hg (rs r) = true → post 1 (sY J R fo ft sg ps rs rl sj se st (ri_u wt r 3) hd lk hg un dn rv mt nx)) (h2 : st r = true → wt r = 0 → ri_trav un r = false → ri_hfor hg (rs r) = false → post 1 (sY J R fo ft sg ps rs rl sj se (ri_u st r false) (ri_u wt r 0) (ri_hdR hd r) (ri_lkR lk r) hg un dn rv mt nx)) : wpY_cancel post (sY J R fo ft sg ps rs rl sj se st wt hd lk hg un dn rv mt nx) (nI r) := by
  have hR := HR.1
  have hw := D.2.2.2.2.1 r
  have hrs := HR.2.1 r
  simp only [wpY_cancel]
  refine ry_isR1 hR hr (br_f (by decide) ?_)
  simp (disch := omega) only [nI_clamp, ri_in, ri_b_ap, ri_B0, ri_n_ap, ri_ge0]
  refine ⟨by omega, br_c (fun z => h0 (Or.inl z)) (fun z => ry_used (by omega) D.1 D.2.1 ?_)⟩
  rw [Bool.not_eq_false] at z
  rw [ri_usedt D]
  simp only [ri_B0]
  refine br_c (fun w => ⟨by omega, br_c (fun y => ?_) (fun y => h0 (Or.inr (Or.inl (by omega))))⟩) (fun w => h0 (Or.inr (Or.inr ?_)))
  · refine ri_fo (fun n i => wY_cancel_40 post (nI r) (nI J) (nI R) (ri_n fo) (ri_n ft) (ri_b sg) (ri_n ps) (ri_n rs) (ri_n rl) (ri_n sj) (ri_n se) (ri_b st) (ri_n wt) (ri_b hd) (ri_x lk) (ri_y hg) (ri_y un) (ri_n dn) rv mt nx n (ri_B (ri_ba (fun t => decide (hg t = rs r + 1)) i)) (nI i)) 3 ?_ ?_
    · intro n
      simp only [wY_cancel_40]
      refine br_t (nI_le (a := 3) (b := 3) (by omega) (by omega)) ?_
      simp (disch := omega) only [ri_B0, nI_clamp, ri_in, ri_upd_n3]
      refine br_c (fun x => ry_rel (by omega) D.2.2.1 (h2 z (by omega) w x)) (fun x => ⟨by omega, nm_e (h1 z (by omega) w ?_)⟩)
      rw [Bool.not_eq_false] at x; exact x
    · intro n i hi p
      have := D.1 i
      simp only [wY_cancel_40]
      simp (disch := omega) only [nI_clamp, ri_in, ri_y_ap, ri_n_ap, ri_cy_e, nI_1, ri_le3]
      refine br_f (by omega) ⟨by omega, by omega, br_c (fun x => ?_) (fun x => ?_)⟩
      · simp only [ri_ba, x, decide_true, Bool.or_true] at p
        exact nm_e p
      · simp only [ri_ba, x, decide_false, Bool.or_false] at p
        exact nm_e p
  · rw [Bool.not_eq_false] at w; exact w
/-! set -/
def ri_pl (ct ej ps : Nat → Nat) (a j : Nat) : Nat → Nat := if ct a = 2 then ri_u ps a (if ej (2 * a) = j then 0 else 1) else ps
theorem ri_pl_le {a j : Nat} (PS : ∀ a, ps a ≤ 1) : ∀ x, ri_pl ct ej ps a j x ≤ 1 := by
  intro x
  unfold ri_pl
  split
  · unfold ri_u
    split
    · split <;> omega
    · exact PS x
  · exact PS x
def ri_psS (fo ft ct ej sj : Nat → Nat) (r : Nat) (ps : Nat → Nat) : Nat → Nat → Nat
  | 0 => ps
  | i + 1 => ri_pl ct ej (ri_pl ct ej (ri_psS fo ft ct ej sj r ps i) (fo (sj (5 * r + i))) (sj (5 * r + i))) (ft (sj (5 * r + i))) (sj (5 * r + i))
def ri_hdS (r : Nat) (hd : Nat → Bool) : Nat → Nat → Bool
  | 0 => hd
  | i + 1 => ri_u (ri_hdS r hd i) (5 * r + i) true
def ri_lkS (se : Nat → Nat) (r : Nat) (lk : Nat → Nat) : Nat → Nat → Nat
  | 0 => lk
  | i + 1 => ri_u (ri_lkS se r lk i) (se (5 * r + i) / 2) (r + 1)
theorem ri_psS_le {r : Nat} (PS : ∀ a, ps a ≤ 1) : ∀ i x, ri_psS fo ft ct ej sj r ps i x ≤ 1 := by
  intro i
  induction i with
  | zero => exact PS
  | succ i ih => exact ri_pl_le (ri_pl_le ih)
theorem ri_hdS_i {r : Nat} : ∀ i k, ri_hdS r hd i k = true → (5 * r ≤ k ∧ k < 5 * r + i) ∨ hd k = true := by
  intro i
  induction i with
  | zero => intro k h; exact Or.inr h
  | succ i ih =>
    intro k h
    by_cases z : k = 5 * r + i
    · exact Or.inl (by omega)
    · rw [ri_hdS, ri_un z] at h
      rcases ih k h with y | y
      · exact Or.inl (by omega)
      · exact Or.inr y
theorem ri_lkS_i {r : Nat} : ∀ i s, (ri_lkS se r lk i s = r + 1 ∧ ∃ k, k < i ∧ se (5 * r + k) / 2 = s) ∨ ri_lkS se r lk i s = lk s := by
  intro i
  induction i with
  | zero => intro s; exact Or.inr rfl
  | succ i ih =>
    intro s
    by_cases z : s = se (5 * r + i) / 2
    · subst z
      left
      exact ⟨ri_us, i, by omega, rfl⟩
    · rw [ri_lkS, ri_un z]
      rcases ih s with ⟨y, k, k1, k2⟩ | y
      · exact Or.inl ⟨y, k, by omega, k2⟩
      · exact Or.inr y
theorem ri_D_set {r : Nat} (D : ri_D R rl se st wt hd lk hg un dn) (hr : r < R) (hR : R ≤ 16) (RL : ∀ r, rl r ≤ 5) (hs : st r = false) : ri_D R rl se (ri_u st r true) wt (ri_hdS r hd (rl r)) (ri_lkS se r lk (rl r)) hg un dn := by
  obtain ⟨D1, D2, D3, D4, D5, D6, D7, D8, D9, DA, DB⟩ := D
  have hl := RL r
  have keep : ∀ x, st x = true → ri_u st r true x = true := by
    intro x h
    unfold ri_u; split
    · rfl
    · exact h
  refine ⟨D1, D2, ?_, D4, D5, fun x h => keep x (D6 x h), ?_, ?_, ?_, ?_, DB⟩
  · intro s
    rcases ri_lkS_i (se := se) (lk := lk) (r := r) (rl r) s with ⟨y, _⟩ | y
    · omega
    · rw [y]; exact D3 s
  · intro x h
    by_cases z : x = r
    · omega
    · rw [ri_un z] at h; exact D7 x h
  · intro k h
    rcases ri_hdS_i _ k h with y | y
    · rw [show k / 5 = r by omega]
      exact ⟨ri_us, by omega⟩
    · exact ⟨keep _ (D8 k y).1, (D8 k y).2⟩
  · intro s hs2 h
    rcases ri_lkS_i (se := se) (lk := lk) (r := r) (rl r) s with ⟨y, k, k1, k2⟩ | y
    · rw [y, Nat.add_sub_cancel]
      exact ⟨ri_us, k, k1, k2⟩
    · rw [y] at h ⊢
      exact ⟨keep _ (D9 s hs2 h).1, (D9 s hs2 h).2⟩
  · intro t ht h
    obtain ⟨a1, a2, a3⟩ := DA t ht h
    exact ⟨a1, keep _ a2, a3⟩
theorem rx_place {post : SX → Prop} {a j : Nat} (ha : a < 20) (hj : j < 12) (CT : ∀ a, ct a ≤ 2) (EJ : ∀ i, ej i < 12) (h : post (sX J R fo ft ct ej (ri_pl ct ej ps a j) sg rs rl sj se cb st wt hd lk hg un dn)) : wpX_placePoint post (sX J R fo ft ct ej ps sg rs rl sj se cb st wt hd lk hg un dn) (nI a) (nI j) := by
  have := EJ (2 * a)
  simp only [wpX_placePoint]
  refine rx_point ha CT ?_
  simp (disch := omega) only [ri_B0, decide_eq_false_iff_not, ri_mul2, nI_clamp, ri_in, ri_n_ap, nI_eq, ri_upd_n0, ri_upd_n1]
  unfold ri_pl at h
  refine br_c (fun z => ?_) (fun z => ⟨by omega, br_c (fun y => ⟨ha, nm_e ?_⟩) (fun y => ⟨ha, nm_e ?_⟩)⟩)
  · rw [if_neg z] at h; exact h
  · rw [if_pos (Classical.not_not.mp z), if_pos y] at h; exact h
  · rw [if_pos (Classical.not_not.mp z), if_neg y] at h; exact h
theorem rx_setL {post : Int32 → SX → Prop} {r : Nat} (hr : r < 16) (CT : ∀ a, ct a ≤ 2) (EJ : ∀ i, ej i < 12) (FO : ∀ j, fo j < 20) (FT : ∀ j, ft j < 20) (RL : ∀ r, rl r ≤ 5) (SJ : ∀ i, sj i < 12) (SE : ∀ i, se i < 20) (h : post 1 (sX J R fo ft ct ej (ri_psS fo ft ct ej sj r ps (rl r)) sg rs rl sj se cb st wt (ri_hdS r hd (rl r)) (ri_lkS se r lk (rl r)) hg un dn)) : ∃ n, wX_set_27 post (nI r) n 0 (nI J) (nI R) (ri_n fo) (ri_n ft) (ri_n ct) (ri_n ej) (ri_n ps) (ri_b sg) (ri_n rs) (ri_n rl) (ri_n sj) (ri_n se) cb (ri_b st) (ri_n wt) (ri_b hd) (ri_x lk) (ri_x hg) (ri_x un) (ri_n dn) := by
  have hl := RL r
  refine ri_fo (fun n i => wX_set_27 post (nI r) n (nI i) (nI J) (nI R) (ri_n fo) (ri_n ft) (ri_n ct) (ri_n ej) (ri_n (ri_psS fo ft ct ej sj r ps i)) (ri_b sg) (ri_n rs) (ri_n rl) (ri_n sj) (ri_n se) cb (ri_b st) (ri_n wt) (ri_b (ri_hdS r hd i)) (ri_x (ri_lkS se r lk i)) (ri_x hg) (ri_x un) (ri_n dn)) (rl r) ?_ ?_
  · intro n
    simp only [wX_set_27]
    simp (disch := omega) only [nI_clamp, ri_in, ri_n_ap, nI_leI]
    exact ⟨hr, br_t (Nat.le_refl _) h⟩
  · intro n i hi p
    have h1 := SJ (5 * r + i)
    have h2 := SE (5 * r + i)
    simp only [wX_set_27]
    simp (disch := omega) only [nI_clamp, ri_in, ri_n_ap, nI_leI, ri_mul5, nI_add]
    refine ⟨hr, br_f (by omega) (nm_e ?_)⟩
    simp (disch := omega) only [nI_clamp, ri_in, ri_n_ap]
    refine ⟨by omega, nm_e ⟨by omega, by decide, ?_⟩⟩
    simp (disch := omega) only [nI_clamp, ri_in, ri_n_ap, ri_div2, ri_upd_xs, ri_nar1, ri_upd_b]
    refine ⟨by omega, nm_e ⟨by omega, nm_e ⟨h1, ?_⟩⟩⟩
    refine rx_place (FO _) h1 CT EJ ?_
    simp (disch := omega) only [nI_clamp, ri_in, ri_n_ap]
    refine ⟨h1, rx_place (FT _) h1 CT EJ (nm_r (nI_1 _) p)⟩
theorem ry_setI {post : Int32 → SY → Prop} {J36 : Int32 → (Nat → Int32) → (Nat → Int32) → (Nat → Int32) → (Nat → Int32) → (Nat → Int32) → (Nat → Int32) → (Nat → Int32) → (Nat → Int32) → (Nat → Int32) → (Nat → Int32) → (Nat → Int32) → (Nat → Int32) → (Nat → Int32) → (Nat → Int32) → (Nat → Int32) → (Nat → Int32) → (Nat → Int32) → (Nat → Int32) → Prop} {r k : Nat} (hk : k < 80) (HJ : ri_J J fo ft ct ej) (SJ : ∀ i, sj i < 12) (h : J36 (nI (k + 1)) (ri_n fo) (ri_n ft) (ri_b sg) (ri_n (ri_pl ct ej (ri_pl ct ej ps (fo (sj k)) (sj k)) (ft (sj k)) (sj k))) (ri_n rs) (ri_n rl) (ri_n sj) (ri_n se) (ri_b st) (ri_n wt) (ri_b hd) (ri_x lk) (ri_y hg) (ri_y un) (ri_n dn) rv mt nx) : ∃ n, wY_set_73 post J36 (nI r) (nI k) (nI J) (nI R) n 0 (ri_n fo) (ri_n ft) (ri_b sg) (ri_n ps) (ri_n rs) (ri_n rl) (ri_n sj) (ri_n se) (ri_b st) (ri_n wt) (ri_b hd) (ri_x lk) (ri_y hg) (ri_y un) (ri_n dn) rv mt nx := by
  have h1 := SJ k
  have key : ∀ (n z : Nat) (ps : Nat → Nat), z < 2 → wY_set_73 post J36 (nI r) (nI k) (nI J) (nI R) n (nI (z + 1)) (ri_n fo) (ri_n ft) (ri_b sg) (ri_n (ri_pl ct ej ps (ri_eo fo ft (sj k) z) (sj k))) (ri_n rs) (ri_n rl) (ri_n sj) (ri_n se) (ri_b st) (ri_n wt) (ri_b hd) (ri_x lk) (ri_y hg) (ri_y un) (ri_n dn) rv mt nx → wY_set_73 post J36 (nI r) (nI k) (nI J) (nI R) (n + 1) (nI z) (ri_n fo) (ri_n ft) (ri_b sg) (ri_n ps) (ri_n rs) (ri_n rl) (ri_n sj) (ri_n se) (ri_b st) (ri_n wt) (ri_b hd) (ri_x lk) (ri_y hg) (ri_y un) (ri_n dn) rv mt nx := by
    intro n z ps hz p
    have h2 := ri_nd_le (ct := ct) (ej := ej) (j := sj k) (a := ri_eo fo ft (sj k) z)
    have h3 := ri_eo_lt (j := sj k) (z := z) HJ.2.1 HJ.2.2.1
    have h4 := HJ.2.2.2.1 (ri_eo fo ft (sj k) z)
    simp only [wY_set_73]
    simp (disch := omega) only [nI_clamp, ri_in, ri_n_ap, ri_le2]
    refine br_f (by omega) ⟨hk, ry_nd h1 (by omega) HJ ?_⟩
    simp (disch := omega) only [ri_cy_n, nI_1]
    unfold ri_pl at p
    refine br_c (fun y => ?_) (fun y => ⟨hk, ry_eo h1 (by omega) ?_⟩)
    · rw [if_neg (by unfold ri_nd at y; split at y; · omega
                     · split at y <;> omega)] at p
      exact nm_e p
    · have hc2 : ct (ri_eo fo ft (sj k) z) = 2 := by
        unfold ri_nd at y; split at y
        · exact absurd rfl y
        · omega
      rw [if_pos hc2] at p
      have e : ri_cy (ri_nd ct ej (sj k) (ri_eo fo ft (sj k) z)) = nI (if ej (2 * ri_eo fo ft (sj k) z) = sj k then 0 else 1) := by
        unfold ri_nd
        rw [if_neg (by omega)]
        split <;> rfl
      rw [e]
      simp (disch := omega) only [nI_clamp, ri_in, ri_upd_n]
      exact ⟨h3, nm_e (nm_e p)⟩
  refine ⟨3, key 2 0 ps (by omega) (key 1 1 _ (by omega) ?_)⟩
  exact br_t (nI_le (a := 2) (b := 2) (by omega) (by omega)) (nm_r (nI_1 _) h)
theorem ry_setL {post : Int32 → SY → Prop} {r : Nat} (hr : r < 16) (HJ : ri_J J fo ft ct ej) (RL : ∀ r, rl r ≤ 5) (SJ : ∀ i, sj i < 12) (SE : ∀ i, se i < 20) (h : post 1 (sY J R fo ft sg (ri_psS fo ft ct ej sj r ps (rl r)) rs rl sj se st wt (ri_hdS r hd (rl r)) (ri_lkS se r lk (rl r)) hg un dn rv mt nx)) : ∃ n, wY_set_36 post (nI r) (nI J) (nI R) n (nI (5 * r)) (ri_n fo) (ri_n ft) (ri_b sg) (ri_n ps) (ri_n rs) (ri_n rl) (ri_n sj) (ri_n se) (ri_b st) (ri_n wt) (ri_b hd) (ri_x lk) (ri_y hg) (ri_y un) (ri_n dn) rv mt nx := by
  have hl := RL r
  refine ri_fo (fun n i => wY_set_36 post (nI r) (nI J) (nI R) n (nI (5 * r + i)) (ri_n fo) (ri_n ft) (ri_b sg) (ri_n (ri_psS fo ft ct ej sj r ps i)) (ri_n rs) (ri_n rl) (ri_n sj) (ri_n se) (ri_b st) (ri_n wt) (ri_b (ri_hdS r hd i)) (ri_x (ri_lkS se r lk i)) (ri_y hg) (ri_y un) (ri_n dn) rv mt nx) (rl r) ?_ ?_
  · intro n
    simp only [wY_set_36]
    simp (disch := omega) only [nI_clamp, ri_in, ri_n_ap, nI_leI, ri_mul5', nI_add]
    exact ⟨hr, br_t (Nat.le_refl _) h⟩
  · intro n i hi p
    have h2 := SE (5 * r + i)
    simp only [wY_set_36]
    simp (disch := omega) only [nI_clamp, ri_in, ri_n_ap, nI_leI, ri_mul5', nI_add, ri_div2, ri_upd_xs, ri_nar1, ri_upd_b]
    refine ⟨hr, br_f (by omega) ⟨by omega, nm_e ⟨by omega, by decide, by omega, nm_e (ry_setI (by omega) HJ SJ p)⟩⟩⟩
end
end
section
section
variable {J R : Nat} {fo ft ct ej ps : Nat → Nat} {sg : Nat → Bool} {rs rl sj se : Nat → Nat} {cb : Nat → Int32} {st : Nat → Bool} {wt : Nat → Nat} {hd : Nat → Bool} {lk hg un dn : Nat → Nat} {rv mt nx : Nat → Int32}
theorem ri_heldeq {a : Nat} (HR : ri_R J R rs rl sj se) (D : ri_D R rl se st wt hd lk hg un dn) : ri_ba (fun k => hd k && ri_at fo ft a (sj k)) 80 = ri_held R fo ft rl sj hd a := by
  obtain ⟨hR, RS, RL, SJ, SE, R1, R2⟩ := HR
  obtain ⟨D1, D2, D3, D4, D5, D6, D7, D8, D9, DA, DB⟩ := D
  apply ri_beq
  rw [ri_ba_t, ri_held, ri_ba_t]
  constructor
  · rintro ⟨k, hk, h⟩
    have h' := h
    simp only [Bool.and_eq_true] at h'
    obtain ⟨a1, a2⟩ := D8 k h'.1
    refine ⟨k / 5, D7 _ a1, ri_ba_t.mpr ⟨k % 5, a2, ?_⟩⟩
    rw [show 5 * (k / 5) + k % 5 = k by omega]
    exact h
  · rintro ⟨r, hr, h⟩
    obtain ⟨i, hi, h2⟩ := ri_ba_t.mp h
    have := RL r
    exact ⟨5 * r + i, by omega, h2⟩
theorem ri_faeq {a j : Nat} (ha : a < 20) (hj : j < J) (hat : ri_at fo ft a j = true) (HJ : ri_J J fo ft ct ej) (PS : ∀ a, ps a ≤ 1) (HR : ri_R J R rs rl sj se) (D : ri_D R rl se st wt hd lk hg un dn) :
    (decide (ri_nd ct ej j a ≠ 0) && (decide (ri_nd ct ej j a ≠ ps a + 1) && ri_fst fo ft sj hd hg a)) = ri_fa R fo ft ct ej ps rl sj hd hg a j := by
  have hf : ri_fst fo ft sj hd hg a = (ri_occ hg (a / 2) || ri_held R fo ft rl sj hd a) := by
    rw [ri_fst, ri_heldeq HR D]
  obtain ⟨hJ, FO, FT, CT, EJ, -, H1, H2⟩ := HJ
  have hc := CT a
  have hp := PS a
  rw [hf, ri_fa]
  by_cases z : ct a = 2
  · have e1 : ri_nd ct ej j a ≠ 0 := by
      unfold ri_nd; rw [if_neg (by omega)]; split <;> omega
    have e2 : ri_nd ct ej j a = ps a + 1 ↔ ej (2 * a + ps a) = j := by
      have c1 := H1 a ha
      obtain ⟨i0, p1, p2, p3⟩ := ri_cn_x (f := ri_at fo ft a) (k := 0) J (by omega)
      obtain ⟨i1, q1, q2, q3⟩ := ri_cn_x (f := ri_at fo ft a) (k := 1) J (by omega)
      have r0 := H2 a ha i0 p1 p2
      have r1 := H2 a ha i1 q1 q2
      rw [p3, Nat.add_zero] at r0
      rw [q3] at r1
      have rj := H2 a ha j hj hat
      have cj := ri_cn_l hj hat
      unfold ri_nd
      rw [if_neg (by omega)]
      by_cases w : ri_cn (ri_at fo ft a) j = 0
      · rw [w, Nat.add_zero] at rj
        rw [if_pos rj]
        by_cases x : ps a = 0
        · rw [x, Nat.add_zero]; exact ⟨fun _ => rj, fun _ => rfl⟩
        · rw [show ps a = 1 by omega]
          refine ⟨fun y => by omega, fun y => ?_⟩
          rw [r1] at y; rw [y] at q3; omega
      · have w1 : ri_cn (ri_at fo ft a) j = 1 := by omega
        rw [w1] at rj
        have nj : ¬ ej (2 * a) = j := by
          intro y; rw [r0] at y; rw [y] at p3; omega
        rw [if_neg nj]
        by_cases x : ps a = 0
        · rw [x, Nat.add_zero]; exact ⟨fun y => by omega, fun y => absurd y nj⟩
        · rw [show ps a = 1 by omega]; exact ⟨fun _ => rj, fun _ => rfl⟩
    rw [decide_eq_true e1, decide_eq_true z]
    congr 2
    exact decide_eq_decide.mpr (not_congr e2)
  · have e1 : ri_nd ct ej j a = 0 := by
      unfold ri_nd; rw [if_pos (by omega)]
    simp [e1, z]
theorem ri_stkeq {r : Nat} (hr : r < R) (HJ : ri_J J fo ft ct ej) (PS : ∀ a, ps a ≤ 1) (HR : ri_R J R rs rl sj se) (D : ri_D R rl se st wt hd lk hg un dn) : ri_stuck fo ft ct ej ps rl sj hd hg r = ri_nfp R fo ft ct ej ps rl sj hd hg r := by
  refine ri_ba_c (fun i hi => ?_)
  have hj := (HR.2.2.2.2.2.2 r hr i hi).1
  have e1 := ri_faeq (a := fo (sj (5 * r + i))) (j := sj (5 * r + i)) (HJ.2.1 _) hj (by simp [ri_at]) HJ PS HR D
  have e2 := ri_faeq (a := ft (sj (5 * r + i))) (j := sj (5 * r + i)) (HJ.2.2.1 _) hj (by simp [ri_at]) HJ PS HR D
  rw [← e1, ← e2]
  simp only [ri_ba, Bool.false_or, ri_sk, ri_eo]
  rfl
theorem ri_busyeq (HR : ri_R J R rs rl sj se) (D : ri_D R rl se st wt hd lk hg un dn) : ri_busy 16 st hg = ri_busy R st hg := by
  have hR := HR.1
  unfold ri_busy
  congr 1
  apply ri_beq
  rw [ri_ba_t, ri_ba_t]
  constructor
  · rintro ⟨r, _, h⟩; exact ⟨r, D.2.2.2.2.2.2.1 r h, h⟩
  · rintro ⟨r, hr, h⟩; exact ⟨r, by omega, h⟩
theorem ri_D_free {R' : Nat} {rl' se' : Nat → Nat} (D : ri_D R rl se st wt hd lk hg un dn) (hb : ri_busy R st hg = false) : ri_D R' rl' se' st wt hd lk hg un dn := by
  obtain ⟨D1, D2, D3, D4, D5, D6, D7, D8, D9, DA, DB⟩ := D
  simp only [ri_busy, Bool.or_eq_false_iff] at hb
  have hs : ∀ r, st r = true → False := by
    intro r h
    have := ri_ba_f.mp hb.2 r (D7 r h)
    rw [h] at this; exact absurd this (by decide)
  have hh : ∀ t, t < 3 → hg t = 0 := by
    intro t ht
    have := ri_ba_f.mp hb.1 t ht
    simp only [ne_eq, decide_eq_false_iff_not, Classical.not_not] at this
    exact this
  refine ⟨D1, D2, D3, D4, D5, D6, fun r h => (hs r h).elim, fun k h => (hs _ (D8 k h).1).elim, fun s h1 h2 => (hs _ (D9 s h1 h2).1).elim, fun t ht h => absurd (hh t ht) (DA t ht h).1, DB⟩
def ri_dup (fo ft : Nat → Nat) (a b j : Nat) : Bool := (decide (fo j = a) && decide (ft j = b)) || (decide (fo j = b) && decide (ft j = a))
theorem ri_dupeq {a b : Nat} (ha : a < 20) (hab : a ≠ b) (HJ : ri_J J fo ft ct ej) : ri_ba (fun i => decide (ri_far fo ft (ej (2 * a + i)) a = b)) (ct a) = ri_ba (ri_dup fo ft a b) J := by
  have HJ' := HJ
  obtain ⟨hJ, FO, FT, CT, EJ, -, H1, H2⟩ := HJ'
  apply ri_beq
  rw [ri_ba_t, ri_ba_t]
  constructor
  · rintro ⟨i, hi, h⟩
    obtain ⟨h1, h2⟩ := ri_Jk HJ ha hi
    refine ⟨_, h1, ?_⟩
    simp only [decide_eq_true_eq] at h
    unfold ri_far at h
    simp only [ri_at, Bool.or_eq_true, decide_eq_true_eq] at h2
    simp only [ri_dup, Bool.or_eq_true, Bool.and_eq_true, decide_eq_true_eq]
    split at h
    · rename_i w; exact Or.inl ⟨w, h⟩
    · rename_i w; exact Or.inr ⟨h, h2.resolve_left w⟩
  · rintro ⟨j, hj, h⟩
    simp only [ri_dup, Bool.or_eq_true, Bool.and_eq_true, decide_eq_true_eq] at h
    have hat : ri_at fo ft a j = true := by
      simp only [ri_at, Bool.or_eq_true, decide_eq_true_eq]
      rcases h with h | h
      · exact Or.inl h.1
      · exact Or.inr h.2
    have e := H2 a ha j hj hat
    refine ⟨ri_cn (ri_at fo ft a) j, by rw [H1 a ha]; exact ri_cn_l hj hat, ?_⟩
    rw [e]
    simp only [decide_eq_true_eq]
    unfold ri_far
    rcases h with h | h
    · rw [if_pos h.1]; exact h.2
    · rw [if_neg (by omega)]; exact h.1
theorem ri_Jnew {a b : Nat} (ha : a < 20) (hb : b < 20) (hab : a / 2 ≠ b / 2) (hJ12 : J < 12) (ca : ct a < 2) (cb2 : ct b < 2) (HJ : ri_J J fo ft ct ej) : ri_J (J + 1) (ri_u fo J a) (ri_u ft J b) (ri_u (ri_u ct a (ct a + 1)) b (ct b + 1)) (ri_u (ri_u ej (2 * a + ct a) J) (2 * b + ct b) J) := by
  obtain ⟨hJ, FO, FT, CT, EJ, H0, H1, H2⟩ := HJ
  have hne : a ≠ b := by intro z; rw [z] at hab; exact hab rfl
  have atlo : ∀ e j, j < J → ri_at (ri_u fo J a) (ri_u ft J b) e j = ri_at fo ft e j := by
    intro e j hj
    unfold ri_at
    rw [ri_un (by omega), ri_un (by omega)]
  have athi : ∀ e, ri_at (ri_u fo J a) (ri_u ft J b) e J = (decide (a = e) || decide (b = e)) := by
    intro e
    unfold ri_at
    rw [ri_us, ri_us]
  have cnlo : ∀ e j, j ≤ J → ri_cn (ri_at (ri_u fo J a) (ri_u ft J b) e) j = ri_cn (ri_at fo ft e) j := by
    intro e j hj
    exact ri_cn_c (fun i hi => atlo e i (by omega))
  refine ⟨by omega, ?_, ?_, ?_, ?_, ?_, ?_, ?_⟩
  · intro j; unfold ri_u; split
    · exact ha
    · exact FO j
  · intro j; unfold ri_u; split
    · exact hb
    · exact FT j
  · intro e
    by_cases z : e = b
    · subst z; rw [ri_us]; omega
    · rw [ri_un z]
      by_cases y : e = a
      · subst y; rw [ri_us]; omega
      · rw [ri_un y]; exact CT e
  · intro i
    by_cases z : i = 2 * b + ct b
    · subst z; rw [ri_us]; omega
    · rw [ri_un z]
      by_cases y : i = 2 * a + ct a
      · subst y; rw [ri_us]; omega
      · rw [ri_un y]; exact EJ i
  · intro j hj
    by_cases z : j = J
    · subst z; rw [ri_us, ri_us]; exact hab
    · rw [ri_un z, ri_un z]; exact H0 j (by omega)
  · intro e he
    simp only [ri_cn]
    rw [cnlo e J (Nat.le_refl _), athi e, ← H1 e he]
    by_cases z : e = b
    · subst z; rw [ri_us]; simp
    · rw [ri_un z]
      by_cases y : e = a
      · subst y; rw [ri_us]; simp
      · rw [ri_un y]; simp [Ne.symm z, Ne.symm y]
  · intro e he j hj hat
    rw [cnlo e j (by omega)]
    by_cases z : j = J
    · subst z
      rw [athi e] at hat
      simp only [Bool.or_eq_true, decide_eq_true_eq] at hat
      rw [← H1 e he]
      rcases hat with y | y
      · subst y
        rw [ri_un (by omega), ri_us]
      · subst y
        rw [ri_us]
    · have hj' : j < J := by omega
      rw [atlo e j hj'] at hat
      have c1 := ri_cn_l hj' hat
      rw [← H1 e he] at c1
      have c2 := CT e
      have n1 : 2 * e + ri_cn (ri_at fo ft e) j ≠ 2 * b + ct b := by
        intro w
        have : e = b := by omega
        subst this
        omega
      have n2 : 2 * e + ri_cn (ri_at fo ft e) j ≠ 2 * a + ct a := by
        intro w
        have : e = a := by omega
        subst this
        omega
      rw [ri_un n1, ri_un n2]
      exact H2 e he j hj' hat
def ri_ps0 (ps : Nat → Nat) (n : Nat) : Nat → Nat := fun e => if e < n then 0 else ps e
theorem ri_ps0_s {n : Nat} : ri_u (ri_ps0 ps n) n 0 = ri_ps0 ps (n + 1) := by
  funext e
  simp only [ri_u, ri_ps0]
  by_cases z : e = n
  · rw [if_pos z, if_pos (by omega)]
  · rw [if_neg z]
    by_cases y : e < n
    · rw [if_pos y, if_pos (by omega)]
    · rw [if_neg y, if_neg (by omega)]
theorem ri_ps0_0 : ri_ps0 ps 0 = ps := by
  funext e; exact if_neg (by omega)
theorem rx_reset {post : SX → Prop} (h : post (sX J R fo ft ct ej (ri_ps0 ps 20) sg rs rl sj se cb st wt hd lk hg un dn)) : wpX_resetPoints post (sX J R fo ft ct ej ps sg rs rl sj se cb st wt hd lk hg un dn) := by
  have W := ri_fo (fun n i => wX_resetPoints_2 post (nI J) (nI R) n (nI i) (ri_n fo) (ri_n ft) (ri_n ct) (ri_n ej) (ri_n (ri_ps0 ps i)) (ri_b sg) (ri_n rs) (ri_n rl) (ri_n sj) (ri_n se) cb (ri_b st) (ri_n wt) (ri_b hd) (ri_x lk) (ri_x hg) (ri_x un) (ri_n dn)) 20 ?_ ?_
  · rw [ri_ps0_0] at W; exact W
  · intro n
    exact br_t (nI_le (a := 20) (b := 20) (by omega) (by omega)) h
  · intro n i hi p
    simp only [wX_resetPoints_2]
    simp (disch := omega) only [nI_clamp, ri_in, ri_le20, ri_upd_n0, ri_ps0_s, nI_1]
    exact br_f (by omega) ⟨hi, nm_e (nm_e p)⟩
theorem ry_reset {post : Int32 → SY → Prop} (h : wpY_findRoutes (fun u => post 1 u) (sY J R fo ft sg (ri_ps0 ps 20) rs rl sj se st wt hd lk hg un dn rv mt nx)) : ∃ n, wY_joint_159 post (nI J) (nI R) n 0 (ri_n fo) (ri_n ft) (ri_b sg) (ri_n ps) (ri_n rs) (ri_n rl) (ri_n sj) (ri_n se) (ri_b st) (ri_n wt) (ri_b hd) (ri_x lk) (ri_y hg) (ri_y un) (ri_n dn) rv mt nx := by
  have W := ri_fo (fun n i => wY_joint_159 post (nI J) (nI R) n (nI i) (ri_n fo) (ri_n ft) (ri_b sg) (ri_n (ri_ps0 ps i)) (ri_n rs) (ri_n rl) (ri_n sj) (ri_n se) (ri_b st) (ri_n wt) (ri_b hd) (ri_x lk) (ri_y hg) (ri_y un) (ri_n dn) rv mt nx) 20 ?_ ?_
  · rw [ri_ps0_0] at W; exact W
  · intro n
    exact br_t (nI_le (a := 20) (b := 20) (by omega) (by omega)) h
  · intro n i hi p
    simp only [wY_joint_159]
    simp (disch := omega) only [nI_clamp, ri_in, ri_le20, ri_upd_n0, ri_ps0_s, nI_1]
    exact br_f (by omega) ⟨hi, nm_e (nm_e p)⟩
theorem rx_attach {post : SX → Prop} {a j : Nat} (ha : a < 20) (hc : ct a < 2) (h : post (sX J R fo ft (ri_u ct a (ct a + 1)) (ri_u ej (2 * a + ct a) j) ps sg rs rl sj se cb st wt hd lk hg un dn)) : wpX_attachJoint post (sX J R fo ft ct ej ps sg rs rl sj se cb st wt hd lk hg un dn) (nI a) (nI j) := by
  simp only [wpX_attachJoint]
  simp (disch := omega) only [nI_clamp, ri_in, ri_n_ap, ri_mul2, nI_add, ri_upd_n, nI_1]
  exact ⟨ha, by omega, nm_e ⟨ha, ha, nm_e h⟩⟩
theorem rx_room {post : Int32 → Prop} {a : Nat} (ha : a < 20) (CT : ∀ a, ct a ≤ 2) (h1 : ct a < 2 → post 1) (h0 : ¬ ct a < 2 → post 0) : wpX_hasRoomForJoint post (sX J R fo ft ct ej ps sg rs rl sj se cb st wt hd lk hg un dn) (nI a) := by
  have := CT a
  simp only [wpX_hasRoomForJoint]
  simp (disch := omega) only [nI_clamp, ri_in, ri_n_ap, ri_le2]
  exact ⟨ha, br_c (fun z => h0 (by omega)) (fun z => h1 (by omega))⟩
theorem rx_joint {post : Int32 → SX → Prop} {a b : Nat} (ha : a < 20) (hb : b < 20) (hab : a / 2 ≠ b / 2) (HJ : ri_J J fo ft ct ej) (HR : ri_R J R rs rl sj se) (D : ri_D R rl se st wt hd lk hg un dn) (h0 : ¬ (J < 12 ∧ ct a < 2 ∧ ct b < 2 ∧ ri_ba (ri_dup fo ft a b) J = false ∧ ri_busy R st hg = false) → post 0 (sX J R fo ft ct ej ps sg rs rl sj se cb st wt hd lk hg un dn)) (h1 : J < 12 → ct a < 2 → ct b < 2 → ri_ba (ri_dup fo ft a b) J = false → ri_busy R st hg = false → wpX_findRoutes (fun u => post 1 u) (sX (J + 1) R (ri_u fo J a) (ri_u ft J b) (ri_u (ri_u ct a (ct a + 1)) b (ct b + 1)) (ri_u (ri_u ej (2 * a + ct a) J) (2 * b + ct b) J) (ri_ps0 ps 20) sg rs rl sj se cb st wt hd lk hg un dn)) : wpX_joint post (sX J R fo ft ct ej ps sg rs rl sj se cb st wt hd lk hg un dn) (nI a) (nI b) := by
  have hJ := HJ.1
  have hne : a ≠ b := by intro z; rw [z] at hab; exact hab rfl
  simp only [wpX_joint]
  refine rx_isE1 ha (br_f (by decide) (rx_isE1 hb (br_f (by decide) ⟨by decide, by decide, ?_⟩)))
  simp (disch := omega) only [ri_div2, nI_eq, ri_le12]
  refine br_f hab (br_c (fun z => h0 (by omega)) (fun z => ?_))
  refine rx_room ha HJ.2.2.2.1 (fun ca => br_f (by decide) ?_) (fun ca => br_t rfl (h0 (fun w => ca w.2.1)))
  refine rx_room hb HJ.2.2.2.1 (fun cb' => br_f (by decide) ?_) (fun cb' => br_t rfl (h0 (fun w => cb' w.2.2.1)))
  refine rx_joined ha hb HJ.2.2.2.1 HJ.2.2.2.2.1 HJ.2.1 HJ.2.2.1 ?_
  rw [ri_dupeq ha hne HJ]
  simp only [ri_B0]
  refine br_c (fun y => rx_free HR.1 D.1 ?_) (fun y => h0 (fun w => y w.2.2.2.1))
  simp only [ri_B0, Bool.not_eq_false']
  refine br_c (fun x => h0 (fun w => by rw [x] at w; exact absurd w.2.2.2.2 (by decide))) (fun x => ?_)
  rw [Bool.not_eq_true] at x
  have H := h1 (by omega) ca cb' y x
  simp (disch := omega) only [nI_clamp, ri_in, ri_upd_n]
  refine ⟨by omega, nm_e ⟨by omega, nm_e (rx_attach ha ca (rx_attach hb ?_ ?_))⟩⟩
  · rw [ri_un (Ne.symm hne)]; exact cb'
  · rw [ri_un (Ne.symm hne)]
    exact nm_r (nI_1 _) (rx_reset H)
theorem ry_dupL {post : Int32 → SY → Prop} {a b : Nat} (ha : a < 20) (hb : b < 20) (HJ : ri_J J fo ft ct ej) (h0 : ri_ba (ri_dup fo ft a b) J = true → post 0 (sY J R fo ft sg ps rs rl sj se st wt hd lk hg un dn rv mt nx)) (h1 : ri_ba (ri_dup fo ft a b) J = false → J < 12 ∧ wpY_findRoutes (fun u => post 1 u) (sY (J + 1) R (ri_u fo J a) (ri_u ft J b) sg (ri_ps0 ps 20) rs rl sj se st wt hd lk hg un dn rv mt nx)) : ∃ n, wY_joint_71 post (nI a) (nI b) (nI J) (nI R) (ri_n fo) (ri_n ft) (ri_b sg) (ri_n ps) (ri_n rs) (ri_n rl) (ri_n sj) (ri_n se) (ri_b st) (ri_n wt) (ri_b hd) (ri_x lk) (ri_y hg) (ri_y un) (ri_n dn) rv mt nx n 0 := by
  obtain ⟨hJ, FO, FT, -⟩ := HJ
  refine ri_sc (fun n j => wY_joint_71 post (nI a) (nI b) (nI J) (nI R) (ri_n fo) (ri_n ft) (ri_b sg) (ri_n ps) (ri_n rs) (ri_n rl) (ri_n sj) (ri_n se) (ri_b st) (ri_n wt) (ri_b hd) (ri_x lk) (ri_y hg) (ri_y un) (ri_n dn) rv mt nx n (nI j)) _ _ (ri_dup fo ft a b) J ?_ ?_ ?_ h1 h0
  · intro n p
    have hJ12 := p.1
    simp only [wY_joint_71]
    simp (disch := omega) only [nI_clamp, ri_in, ri_upd_n, nI_leI, nI_1]
    exact br_t (Nat.le_refl _) ⟨p.1, nm_e ⟨p.1, nm_e (nm_e (ry_reset p.2))⟩⟩
  · intro n j hj hf p
    have := FO j
    have := FT j
    simp only [ri_dup, Bool.or_eq_true, Bool.and_eq_true, decide_eq_true_eq] at hf
    simp only [wY_joint_71, wY_joint_99]
    simp (disch := omega) only [nI_clamp, ri_in, ri_n_ap, nI_leI, nI_eq, nI_1]
    have j12 : j < 12 := by omega
    refine br_f (by omega) ⟨j12, br_c (fun z => ⟨j12, br_c (fun _ => p) (fun y => ⟨j12, br_c (fun x => ⟨j12, br_c (fun _ => p) (fun w => ?_)⟩) (fun x => ?_)⟩)⟩) (fun z => ⟨j12, br_c (fun x => ⟨j12, br_c (fun _ => p) (fun w => ?_)⟩) (fun x => ?_)⟩)⟩
    · rcases hf with q | q
      · exact absurd q.2 y
      · exact absurd q.2 w
    · rcases hf with q | q
      · exact absurd q.2 y
      · exact absurd q.1 x
    · rcases hf with q | q
      · exact absurd q.1 z
      · exact absurd q.2 w
    · rcases hf with q | q
      · exact absurd q.1 z
      · exact absurd q.1 x
  · intro n j hj hf p
    have := FO j
    have := FT j
    have hf1 : ¬ (fo j = a ∧ ft j = b) := by
      intro w; simp [ri_dup, w] at hf
    have hf2 : ¬ (fo j = b ∧ ft j = a) := by
      intro w; simp [ri_dup, w] at hf
    simp only [wY_joint_71, wY_joint_99]
    simp (disch := omega) only [nI_clamp, ri_in, ri_n_ap, nI_leI, nI_eq, nI_1]
    have j12 : j < 12 := by omega
    refine br_f (by omega) ⟨j12, br_c (fun z => ⟨j12, br_c (fun y => absurd ⟨z, y⟩ hf1) (fun y => ⟨j12, br_c (fun x => ⟨j12, br_c (fun w => absurd ⟨x, w⟩ hf2) (fun w => nm_e p)⟩) (fun x => nm_e p)⟩)⟩) (fun z => ⟨j12, br_c (fun x => ⟨j12, br_c (fun w => absurd ⟨x, w⟩ hf2) (fun w => nm_e p)⟩) (fun x => nm_e p)⟩)⟩
theorem ry_joint {post : Int32 → SY → Prop} {a b : Nat} (ha : a < 20) (hb : b < 20) (hab : a / 2 ≠ b / 2) (HJ : ri_J J fo ft ct ej) (HR : ri_R J R rs rl sj se) (D : ri_D R rl se st wt hd lk hg un dn) (h0 : ¬ (J < 12 ∧ ct a < 2 ∧ ct b < 2 ∧ ri_ba (ri_dup fo ft a b) J = false ∧ ri_busy R st hg = false) → post 0 (sY J R fo ft sg ps rs rl sj se st wt hd lk hg un dn rv mt nx)) (h1 : J < 12 → ct a < 2 → ct b < 2 → ri_ba (ri_dup fo ft a b) J = false → ri_busy R st hg = false → wpY_findRoutes (fun u => post 1 u) (sY (J + 1) R (ri_u fo J a) (ri_u ft J b) sg (ri_ps0 ps 20) rs rl sj se st wt hd lk hg un dn rv mt nx)) : wpY_joint post (sY J R fo ft sg ps rs rl sj se st wt hd lk hg un dn rv mt nx) (nI a) (nI b) := by
  have hJ := HJ.1
  have c1 := HJ.2.2.2.1 a
  have c2 := HJ.2.2.2.1 b
  simp only [wpY_joint]
  simp (disch := omega) only [ri_eq12]
  refine br_c (fun z => h0 (by omega)) (fun z => ?_)
  refine ry_inN1 19 (by omega) ha (br_f (by decide) (ry_inN1 19 (by omega) hb (br_f (by decide) ⟨by decide, by decide, ?_⟩)))
  simp (disch := omega) only [ri_div2, nI_eq]
  refine br_f hab (ry_busy D.1 ?_)
  rw [ri_busyeq HR D]
  simp only [ri_B0]
  refine br_c (fun x => ?_) (fun x => h0 (fun w => x w.2.2.2.2))
  refine ry_jats ha HJ ?_
  simp (disch := omega) only [ri_eq2]
  refine br_c (fun y => h0 (by omega)) (fun y => ry_jats hb HJ ?_)
  simp (disch := omega) only [ri_eq2]
  refine br_c (fun w => h0 (by omega)) (fun w => ry_dupL ha hb HJ (fun e => h0 (fun q => by rw [e] at q; exact absurd q.2.2.2.1 (by decide))) (fun e => ⟨by omega, h1 (by omega) (by omega) (by omega) e x⟩))
end
end
section
def ri_Inv (J R : Nat) (fo ft ct ej ps rs rl sj se : Nat → Nat) (cb : Nat → Int32) (st : Nat → Bool) (wt : Nat → Nat) (hd : Nat → Bool) (lk hg un dn : Nat → Nat) : Prop := ri_J J fo ft ct ej ∧ (∀ a, ps a ≤ 1) ∧ ri_R J R rs rl sj se ∧ ri_C R fo ft rl sj se cb ∧ ri_D R rl se st wt hd lk hg un dn
def i_Rel (k : Nat) (u : SX) (v : SY) : Prop := ∃ (J R : Nat) (fo ft ct ej ps : Nat → Nat) (sg : Nat → Bool) (rs rl sj se : Nat → Nat) (cb : Nat → Int32) (st : Nat → Bool) (wt : Nat → Nat) (hd : Nat → Bool) (lk hg un dn : Nat → Nat) (rv mt nx : Nat → Int32), u = (sX J R fo ft ct ej ps sg rs rl sj se cb st wt hd lk hg un dn) ∧ v = (sY J R fo ft sg ps rs rl sj se st wt hd lk hg un dn rv mt nx) ∧ ri_Inv J R fo ft ct ej ps rs rl sj se cb st wt hd lk hg un dn
theorem i_up {k : Nat} {u : SX} {v : SY} (h : i_Rel k u v) : i_Rel (k + 3) u v := h
section
variable {J R : Nat} {fo ft ct ej ps : Nat → Nat} {sg : Nat → Bool} {rs rl sj se : Nat → Nat} {cb : Nat → Int32} {st : Nat → Bool} {wt : Nat → Nat} {hd : Nat → Bool} {lk hg un dn : Nat → Nat} {rv mt nx : Nat → Int32}
theorem ri_rel {k : Nat} (H : ri_Inv J R fo ft ct ej ps rs rl sj se cb st wt hd lk hg un dn) : i_Rel k (sX J R fo ft ct ej ps sg rs rl sj se cb st wt hd lk hg un dn) (sY J R fo ft sg ps rs rl sj se st wt hd lk hg un dn rv mt nx) := ⟨J, R, fo, ft, ct, ej, ps, sg, rs, rl, sj, se, cb, st, wt, hd, lk, hg, un, dn, rv, mt, nx, rfl, rfl, H⟩
def ri_z (n : Nat) : Nat → Nat := fun s => if s < n then 0 else 1
theorem ri_z_s (n : Nat) : ri_u (ri_z n) n 0 = ri_z (n + 1) := by
  funext s
  simp only [ri_u, ri_z]
  by_cases h : s = n
  · rw [if_pos h, if_pos (by omega)]
  · rw [if_neg h]
    by_cases h2 : s < n
    · rw [if_pos h2, if_pos (by omega)]
    · rw [if_neg h2, if_neg (by omega)]
theorem rx_init {post : SX → Prop} (h : post (sX 0 0 (fun _ => 0) (fun _ => 0) (fun _ => 0) (fun _ => 0) (fun _ => 0) (fun _ => false) (fun _ => 0) (fun _ => 0) (fun _ => 0) (fun _ => 0) (fun _ => 0) (fun _ => false) (fun _ => 0) (fun _ => false) (ri_z 10) (ri_z 3) (ri_z 3) (fun _ => 0))) : wpX_init post := by
  refine ri_fo (fun n i => wX_init_157 post 0 0 n (nI i) (ri_n fun _ => 0) (ri_n fun _ => 0) (ri_n fun _ => 0) (ri_n fun _ => 0) (ri_n fun _ => 0) (ri_b fun _ => false) (ri_n fun _ => 0) (ri_n fun _ => 0) (ri_n fun _ => 0) (ri_n fun _ => 0) (fun _ => 0) (ri_b fun _ => false) (ri_n fun _ => 0) (ri_b fun _ => false) (ri_x (ri_z i)) (ri_x (ri_z 0)) (ri_x (ri_z 0)) (ri_n fun _ => 0)) 10 ?_ ?_
  · intro n
    refine br_t (nI_le (a := 10) (b := 10) (by omega) (by omega)) ?_
    refine ri_fo (fun n i => wX_init_179 post 0 0 n (nI i) (ri_n fun _ => 0) (ri_n fun _ => 0) (ri_n fun _ => 0) (ri_n fun _ => 0) (ri_n fun _ => 0) (ri_b fun _ => false) (ri_n fun _ => 0) (ri_n fun _ => 0) (ri_n fun _ => 0) (ri_n fun _ => 0) (fun _ => 0) (ri_b fun _ => false) (ri_n fun _ => 0) (ri_b fun _ => false) (ri_x (ri_z 10)) (ri_x (ri_z i)) (ri_x (ri_z i)) (ri_n fun _ => 0)) 3 ?_ ?_
    · intro n
      exact br_t (nI_le (a := 3) (b := 3) (by omega) (by omega)) h
    · intro n i hi p
      simp only [wX_init_179]
      simp (disch := omega) only [nI_clamp, ri_in, ri_le3, ri_upd_x0, ri_z_s, nI_1]
      exact br_f (by omega) ⟨hi, nm_e ⟨hi, nm_e (nm_e p)⟩⟩
  · intro n i hi p
    simp only [wX_init_157]
    simp (disch := omega) only [nI_clamp, ri_in, ri_le10, ri_upd_x0, ri_z_s, nI_1]
    exact br_f (by omega) ⟨hi, nm_e (nm_e p)⟩
theorem ry_init {post : SY → Prop} (h : post (sY 0 0 (fun _ => 0) (fun _ => 0) (fun _ => false) (fun _ => 0) (fun _ => 0) (fun _ => 0) (fun _ => 0) (fun _ => 0) (fun _ => false) (fun _ => 0) (fun _ => false) (ri_z 10) (ri_z 3) (ri_z 3) (fun _ => 0) (fun _ => 0) (fun _ => 0) (fun _ => 0))) : wpY_init post := by
  refine ri_fo (fun n i => wY_init_157 post 0 0 n (nI i) (ri_n fun _ => 0) (ri_n fun _ => 0) (ri_b fun _ => false) (ri_n fun _ => 0) (ri_n fun _ => 0) (ri_n fun _ => 0) (ri_n fun _ => 0) (ri_n fun _ => 0) (ri_b fun _ => false) (ri_n fun _ => 0) (ri_b fun _ => false) (ri_x (ri_z i)) (ri_y (ri_z 0)) (ri_y (ri_z 0)) (ri_n fun _ => 0) (fun _ => 0) (fun _ => 0) (fun _ => 0)) 10 ?_ ?_
  · intro n
    refine br_t (nI_le (a := 10) (b := 10) (by omega) (by omega)) ?_
    refine ri_fo (fun n i => wY_init_179 post 0 0 n (nI i) (ri_n fun _ => 0) (ri_n fun _ => 0) (ri_b fun _ => false) (ri_n fun _ => 0) (ri_n fun _ => 0) (ri_n fun _ => 0) (ri_n fun _ => 0) (ri_n fun _ => 0) (ri_b fun _ => false) (ri_n fun _ => 0) (ri_b fun _ => false) (ri_x (ri_z 10)) (ri_y (ri_z i)) (ri_y (ri_z i)) (ri_n fun _ => 0) (fun _ => 0) (fun _ => 0) (fun _ => 0)) 3 ?_ ?_
    · intro n
      exact br_t (nI_le (a := 3) (b := 3) (by omega) (by omega)) h
    · intro n i hi p
      simp only [wY_init_179]
      simp (disch := omega) only [nI_clamp, ri_in, ri_le3, ri_upd_y0, ri_z_s, nI_1]
      exact br_f (by omega) ⟨hi, nm_e ⟨hi, nm_e (nm_e p)⟩⟩
  · intro n i hi p
    simp only [wY_init_157]
    simp (disch := omega) only [nI_clamp, ri_in, ri_le10, ri_upd_x0, ri_z_s, nI_1]
    exact br_f (by omega) ⟨hi, nm_e (nm_e p)⟩
end
theorem ri_z_le (n s : Nat) : ri_z n s ≤ 1 := by unfold ri_z; split <;> omega
theorem ri_z_in {n s : Nat} (h : s < n) : ri_z n s = 0 := if_pos h
theorem ri_Inv0 : ri_Inv 0 0 (fun _ => 0) (fun _ => 0) (fun _ => 0) (fun _ => 0) (fun _ => 0) (fun _ => 0) (fun _ => 0) (fun _ => 0) (fun _ => 0) (fun _ => 0) (fun _ => false) (fun _ => 0) (fun _ => false) (ri_z 10) (ri_z 3) (ri_z 3) (fun _ => 0) := by
  refine ⟨⟨by omega, fun _ => Nat.zero_lt_succ 19, fun _ => Nat.zero_lt_succ 19, fun _ => Nat.zero_le 2, fun _ => Nat.zero_lt_succ 11, fun j hj => by omega, fun a _ => rfl, fun a _ j hj => by omega⟩, fun _ => Nat.zero_le 1, ⟨by omega, fun _ => Nat.zero_lt_succ 19, fun _ => Nat.zero_le 5, fun _ => Nat.zero_lt_succ 11, fun _ => Nat.zero_lt_succ 19, fun j hj => by omega, fun a hj => by omega⟩, fun r hr => by omega, ?_⟩
  refine ⟨fun t => ?_, fun t => ?_, fun t => ?_, fun _ => Nat.zero_le 5, fun _ => Nat.zero_le 3, fun _ h => absurd rfl h, fun _ h => absurd (show false = true from h) (by decide), fun _ h => absurd (show false = true from h) (by decide), fun s h1 h2 => absurd (ri_z_in h1) h2, fun t h1 h2 => absurd (ri_z_in h1) h2, fun t _ h1 _ h2 => absurd (ri_z_in h1) h2⟩
  · have := ri_z_le 3 t; omega
  · have := ri_z_le 3 t; omega
  · have := ri_z_le 10 t; omega
theorem i_vc0 : wpX_init (fun u => wpY_init (fun v => i_Rel 0 u v)) := rx_init (ry_init (ri_rel ri_Inv0))
theorem i_vc_joint {k : Nat} {u : SX} {v : SY} (I : i_Rel k u v) (hk : k + 3 ≤ 1536) (v1 : Int32) (v2 : Int32) : wpX_joint (fun r u' => wpY_joint (fun r' v' => r' = r ∧ i_Rel (k + 3) u' v') v v1 v2) u v1 v2 := by
  obtain ⟨J, R, fo, ft, ct, ej, ps, sg, rs, rl, sj, se, cb, st, wt, hd, lk, hg, un, dn, rv, mt, nx, rfl, rfl, H⟩ := I
  have K : i_Rel (k + 3) (sX J R fo ft ct ej ps sg rs rl sj se cb st wt hd lk hg un dn) (sY J R fo ft sg ps rs rl sj se st wt hd lk hg un dn rv mt nx) := ri_rel H
  obtain ⟨HJ, PS, HR, HC, D⟩ := H
  rcases ri_cut v1 (N := 20) (by omega) with z1 | ⟨a, ha, rfl⟩
  · simp only [wpX_joint]
    refine rx_isE0 z1 (br_t rfl ?_)
    simp only [wpY_joint]
    exact br_c (fun _ => ⟨by trivial, K⟩) (fun _ => ry_inN0 19 (by omega) z1 (br_t rfl ⟨by trivial, K⟩))
  · rcases ri_cut v2 (N := 20) (by omega) with z2 | ⟨b, hb, rfl⟩
    · simp only [wpX_joint]
      refine rx_isE1 ha (br_f (by decide) (rx_isE0 z2 (br_t rfl ?_)))
      simp only [wpY_joint]
      exact br_c (fun _ => ⟨by trivial, K⟩) (fun _ => ry_inN1 19 (by omega) ha (br_f (by decide) (ry_inN0 19 (by omega) z2 (br_t rfl ⟨by trivial, K⟩))))
    · by_cases hab : a / 2 = b / 2
      · have e : nI a / 2 = nI b / 2 := by rw [ri_div2 (by omega), ri_div2 (by omega), hab]
        simp only [wpX_joint]
        refine rx_isE1 ha (br_f (by decide) (rx_isE1 hb (br_f (by decide) ⟨by decide, by decide, br_t e ?_⟩)))
        simp only [wpY_joint]
        exact br_c (fun _ => ⟨by trivial, K⟩) (fun _ => ry_inN1 19 (by omega) ha (br_f (by decide) (ry_inN1 19 (by omega) hb (br_f (by decide) ⟨by decide, by decide, br_t e ⟨by trivial, K⟩⟩))))
      · refine rx_joint ha hb hab HJ HR D (fun w => ry_joint ha hb hab HJ HR D (fun _ => ⟨by trivial, K⟩) (fun q1 q2 q3 q4 q5 => absurd ⟨q1, q2, q3, q4, q5⟩ w)) (fun q1 q2 q3 q4 q5 => ?_)
        have HJ' := ri_Jnew ha hb hab q1 q2 q3 HJ
        obtain ⟨R', rs', rl', sj', se', cb', HR', HC', gX, gY⟩ := ri_find (R := R) (ps := ri_ps0 ps 20) (sg := sg) (cb := cb) (st := st) (wt := wt) (hd := hd) (lk := lk) (hg := hg) (un := un) (dn := dn) (rv := rv) (mt := mt) (nx := nx) HJ' HR.2.1 HR.2.2.1 HR.2.2.2.1 HR.2.2.2.2.1
        refine gX _ (ry_joint ha hb hab HJ HR D (fun w => absurd ⟨q1, q2, q3, q4, q5⟩ w) (fun _ _ _ _ _ => gY _ ⟨by trivial, ri_rel ⟨HJ', ?_, HR', HC', ri_D_free D q5⟩⟩))
        intro x
        unfold ri_ps0; split
        · omega
        · exact PS x
theorem ri_bz (v : Int32) : ∃ b : Bool, lw_bz v = ri_B b := by
  by_cases h : v = 0
  · exact ⟨false, if_pos h⟩
  · exact ⟨true, if_neg h⟩
theorem i_vc_signal {k : Nat} {u : SX} {v : SY} (I : i_Rel k u v) (hk : k + 3 ≤ 1536) (v1 : Int32) (v2 : Int32) : wpX_signal (fun r u' => wpY_signal (fun r' v' => r' = r ∧ i_Rel (k + 3) u' v') v v1 (lw_bz v2)) u v1 (lw_bz v2) := by
  obtain ⟨J, R, fo, ft, ct, ej, ps, sg, rs, rl, sj, se, cb, st, wt, hd, lk, hg, un, dn, rv, mt, nx, rfl, rfl, H⟩ := I
  have K : i_Rel (k + 3) (sX J R fo ft ct ej ps sg rs rl sj se cb st wt hd lk hg un dn) (sY J R fo ft sg ps rs rl sj se st wt hd lk hg un dn rv mt nx) := ri_rel H
  obtain ⟨HJ, PS, HR, HC, D⟩ := H
  obtain ⟨b, hb⟩ := ri_bz v2
  rw [hb]
  simp only [wpX_signal, wpY_signal]
  rcases ri_cut v1 (N := 20) (by omega) with z1 | ⟨a, ha, rfl⟩
  · exact rx_isE0 z1 (br_t rfl (ry_inN0 19 (by omega) z1 (br_t rfl ⟨by trivial, K⟩)))
  · simp (disch := omega) only [nI_clamp, ri_in, ri_b_ap, ri_BB, ri_nar, ri_upd_b]
    refine rx_isE1 ha (br_f (by decide) ⟨ha, ?_⟩)
    by_cases z : sg a = b
    · exact br_t z (ry_inN1 19 (by omega) ha (br_f (by decide) ⟨ha, br_t z ⟨by trivial, K⟩⟩))
    · refine br_f z (rx_free HR.1 D.1 ?_)
      simp only [ri_B0, Bool.not_eq_false']
      refine br_c (fun x => ?_) (fun x => ⟨ha, nm_e ?_⟩)
      · refine ry_inN1 19 (by omega) ha (br_f (by decide) ⟨ha, br_f z (ry_busy D.1 ?_)⟩)
        rw [ri_busyeq HR D, x]
        exact br_f (by decide) ⟨by trivial, K⟩
      · rw [Bool.not_eq_true] at x
        obtain ⟨R', rs', rl', sj', se', cb', HR', HC', gX, gY⟩ := ri_find (R := R) (ps := ps) (sg := ri_u sg a b) (cb := cb) (st := st) (wt := wt) (hd := hd) (lk := lk) (hg := hg) (un := un) (dn := dn) (rv := rv) (mt := mt) (nx := nx) HJ HR.2.1 HR.2.2.1 HR.2.2.2.1 HR.2.2.2.2.1
        refine gX _ (ry_inN1 19 (by omega) ha (br_f (by decide) ⟨ha, br_f z (ry_busy D.1 ?_)⟩))
        rw [ri_busyeq HR D, x]
        exact br_t (by decide) ⟨ha, nm_e (gY _ ⟨by trivial, ri_rel ⟨HJ, PS, HR', HC', ri_D_free D x⟩⟩)⟩
theorem i_vc_put {k : Nat} {u : SX} {v : SY} (I : i_Rel k u v) (hk : k + 3 ≤ 1536) (v1 : Int32) (v2 : Int32) : wpX_put (fun r u' => wpY_put (fun r' v' => r' = r ∧ i_Rel (k + 3) u' v') v v1 v2) u v1 v2 := by
  obtain ⟨J, R, fo, ft, ct, ej, ps, sg, rs, rl, sj, se, cb, st, wt, hd, lk, hg, un, dn, rv, mt, nx, rfl, rfl, H⟩ := I
  have K : i_Rel (k + 3) (sX J R fo ft ct ej ps sg rs rl sj se cb st wt hd lk hg un dn) (sY J R fo ft sg ps rs rl sj se st wt hd lk hg un dn rv mt nx) := ri_rel H
  obtain ⟨HJ, PS, HR, HC, D⟩ := H
  simp only [wpX_put, wpY_put]
  rcases ri_cut v1 (N := 3) (by omega) with z1 | ⟨t, ht, rfl⟩
  · exact rx_isT0 z1 (br_t rfl (ry_inN0 2 (by omega) z1 (br_t rfl ⟨by trivial, K⟩)))
  · have hgt := D.1 t
    simp (disch := omega) only [nI_clamp, ri_in, ri_x_ap, ri_y_ap, ri_cx_z, ri_cy_g, ri_upd_y0]
    refine rx_isT1 ht (br_f (by decide) ?_)
    rcases ri_cut v2 (N := 20) (by omega) with z2 | ⟨a, ha, rfl⟩
    · exact rx_isE0 z2 (br_t rfl (ry_inN1 2 (by omega) ht (br_f (by decide) ⟨ht, br_c (fun _ => ⟨by trivial, K⟩) (fun _ => ry_inN0 19 (by omega) z2 (br_t rfl ⟨by trivial, K⟩))⟩)))
    · have hlk := D.2.2.1 (a / 2)
      simp (disch := omega) only [ri_div2, nI_clamp, ri_in, ri_cx_z, ri_cx_n, ri_upd_xs, ri_upd_ys]
      refine rx_isE1 ha (br_f (by decide) ⟨ht, br_c (fun y => ⟨by decide, rx_occ (by omega) D.1 ?_⟩) (fun y => ry_inN1 2 (by omega) ht (br_f (by decide) ⟨ht, br_t y ⟨by trivial, K⟩⟩))⟩)
      have hun : un t = 0 := by
        by_cases w : un t = 0
        · exact w
        · exact absurd y (D.2.2.2.2.2.2.2.2.2.1 t ht w).1
      simp only [ri_B0]
      refine br_c (fun x => ⟨by decide, by omega, ?_⟩) (fun x => ?_)
      · refine br_c (fun w => ⟨ht, nm_e ?_⟩) (fun w => ?_)
        · refine ry_inN1 2 (by omega) ht (br_f (by decide) ⟨ht, br_f (fun q => q y) (ry_inN1 19 (by omega) ha (br_f (by decide) ⟨by decide, ry_occ (by omega) D.1 ?_⟩))⟩)
          rw [x]
          refine br_t (by decide) ⟨by decide, by omega, br_t w ⟨ht, nm_e ⟨ht, nm_e ⟨by trivial, ?_⟩⟩⟩⟩
          rw [ri_ui hun]
          refine ri_rel ⟨HJ, PS, HR, HC, ?_⟩
          have D2 := ri_D_off (x := a + 1) (y := dn t) D ht (by omega) (D.2.2.2.1 t)
          rw [ri_ui hun, ri_ui rfl] at D2
          exact D2
        · refine ry_inN1 2 (by omega) ht (br_f (by decide) ⟨ht, br_f (fun q => q y) (ry_inN1 19 (by omega) ha (br_f (by decide) ⟨by decide, ry_occ (by omega) D.1 ?_⟩))⟩)
          rw [x]
          exact br_t (by decide) ⟨by decide, by omega, br_f w ⟨by trivial, K⟩⟩
      · refine ry_inN1 2 (by omega) ht (br_f (by decide) ⟨ht, br_f (fun q => q y) (ry_inN1 19 (by omega) ha (br_f (by decide) ⟨by decide, ry_occ (by omega) D.1 ?_⟩))⟩)
        rw [Bool.not_eq_false] at x
        rw [x]
        exact br_f (by decide) ⟨by trivial, K⟩
theorem i_vc_turn {k : Nat} {u : SX} {v : SY} (I : i_Rel k u v) (hk : k + 3 ≤ 1536) (v1 : Int32) (v2 : Int32) : wpX_turn (fun r u' => wpY_turn (fun r' v' => r' = r ∧ i_Rel (k + 3) u' v') v v1 v2) u v1 v2 := by
  obtain ⟨J, R, fo, ft, ct, ej, ps, sg, rs, rl, sj, se, cb, st, wt, hd, lk, hg, un, dn, rv, mt, nx, rfl, rfl, H⟩ := I
  have K : i_Rel (k + 3) (sX J R fo ft ct ej ps sg rs rl sj se cb st wt hd lk hg un dn) (sY J R fo ft sg ps rs rl sj se st wt hd lk hg un dn rv mt nx) := ri_rel H
  obtain ⟨HJ, PS, HR, HC, D⟩ := H
  simp only [wpX_turn, wpY_turn]
  rcases ri_cut v1 (N := 3) (by omega) with z1 | ⟨t, ht, rfl⟩
  · exact rx_isT0 z1 (br_t rfl (ry_inN0 2 (by omega) z1 (br_t rfl ⟨by trivial, K⟩)))
  · have hgt := D.1 t
    have hut := D.2.1 t
    simp (disch := omega) only [nI_clamp, ri_in, ri_x_ap, ri_y_ap, ri_cx_z, ri_cy_g, ri_cy_n, ri_upd_y0, ri_upd_x0]
    refine rx_isT1 ht (br_f (by decide) ?_)
    rcases ri_cut v2 (N := 2) (by omega) with z2 | ⟨w, hw, rfl⟩
    · by_cases y : v2 < 0
      · exact br_t y (ry_inN1 2 (by omega) ht (br_f (by decide) ⟨ht, br_c (fun _ => ⟨by trivial, K⟩) (fun _ => ⟨ht, br_c (fun _ => ⟨by trivial, K⟩) (fun _ => ry_inN0 1 (by omega) z2 (br_t rfl ⟨by trivial, K⟩))⟩)⟩))
      · refine br_f y (br_f (fun y2 => ?_) (ry_inN1 2 (by omega) ht (br_f (by decide) ⟨ht, br_c (fun _ => ⟨by trivial, K⟩) (fun _ => ⟨ht, br_c (fun _ => ⟨by trivial, K⟩) (fun _ => ry_inN0 1 (by omega) z2 (br_t rfl ⟨by trivial, K⟩))⟩)⟩)))
        rcases z2 with z | z
        · exact y z
        · exact absurd (Int32.le_trans z y2) (by decide)
    · refine br_f (nI_pos (by omega)) (br_t (nI_le (b := 1) (by omega) (by omega)) ⟨ht, br_c (fun y => ?_) (fun y => ⟨ht, br_c (fun x => ?_) (fun x => ?_)⟩)⟩)
      · exact ry_inN1 2 (by omega) ht (br_f (by decide) ⟨ht, br_t y ⟨by trivial, K⟩⟩)
      · simp (disch := omega) only [ri_eq0]
        refine br_c (fun q => ⟨ht, nm_e ?_⟩) (fun q => ⟨ht, ht, ?_⟩)
        · refine ry_inN1 2 (by omega) ht (br_f (by decide) ⟨ht, br_f y ⟨ht, br_f (fun p => p x) (ry_inN1 1 (by omega) hw (br_f (by decide) (br_t q ⟨ht, nm_e ⟨by trivial, ?_⟩⟩)))⟩⟩)
          refine ri_rel ⟨HJ, PS, HR, HC, ?_⟩
          have D2 := ri_D_off (x := 0) (y := dn t) D ht (by omega) (D.2.2.2.1 t)
          rw [ri_ui x, ri_ui rfl] at D2
          exact D2
        · have hop := ri_op_lt (show hg t - 1 < 20 by omega)
          rw [ri_cx_p y, ri_op_x _ (by omega), ri_upd_xs]
          refine nm_e ?_
          refine ry_inN1 2 (by omega) ht (br_f (by decide) ⟨ht, br_f y ⟨ht, br_f (fun p => p x) (ry_inN1 1 (by omega) hw (br_f (by decide) (br_f q ⟨ht, ?_⟩)))⟩⟩)
          simp only [wpY_opposite]
          rw [ri_cy_p y, ri_op_x _ (by omega), ri_upd_ys]
          refine ⟨ht, nm_e ⟨by trivial, ri_rel ⟨HJ, PS, HR, HC, ?_⟩⟩⟩
          have D2 := ri_D_off (x := ri_op (hg t - 1) + 1) (y := dn t) D ht (by omega) (D.2.2.2.1 t)
          rw [ri_ui x, ri_ui rfl] at D2
          exact D2
      · exact ry_inN1 2 (by omega) ht (br_f (by decide) ⟨ht, br_f y ⟨ht, br_t x ⟨by trivial, K⟩⟩⟩)
theorem i_vc_set {k : Nat} {u : SX} {v : SY} (I : i_Rel k u v) (hk : k + 3 ≤ 1536) (v1 : Int32) : wpX_set (fun r u' => wpY_set (fun r' v' => r' = r ∧ i_Rel (k + 3) u' v') v v1) u v1 := by
  obtain ⟨J, R, fo, ft, ct, ej, ps, sg, rs, rl, sj, se, cb, st, wt, hd, lk, hg, un, dn, rv, mt, nx, rfl, rfl, H⟩ := I
  have K : i_Rel (k + 3) (sX J R fo ft ct ej ps sg rs rl sj se cb st wt hd lk hg un dn) (sY J R fo ft sg ps rs rl sj se st wt hd lk hg un dn rv mt nx) := ri_rel H
  obtain ⟨HJ, PS, HR, HC, D⟩ := H
  have HR' := HR
  obtain ⟨hR, RS, RL, SJ, SE, R1, R2⟩ := HR'
  simp only [wpX_set, wpY_set]
  rcases ri_cut v1 (N := R) (by omega) with z1 | ⟨r, hr, rfl⟩
  · exact rx_isR0 z1 (br_t rfl (ry_isR0 hR z1 (br_t rfl ⟨by trivial, K⟩)))
  · refine rx_isR1 hR hr (br_f (by decide) (rx_obs (by omega) hR D.1 D.2.2.1 HJ.2.2.2.1 HJ.2.2.2.2.1 PS RL SJ SE HJ.2.1 HJ.2.2.1 ?_))
    have e := ri_stkeq hr HJ PS HR D
    have hob : ri_obs (ri_eocc hg rl se r) (ri_elck lk rl se r) (ri_nfp R fo ft ct ej ps rl sj hd hg r) (st r) ≤ 4 := by
      unfold ri_obs; split; · omega
      split; · omega
      split; · omega
      split <;> omega
    have Yw : ∀ post : Int32 → Prop, post (nI (ri_obs (ri_eocc hg rl se r) (ri_elck lk rl se r) (ri_nfp R fo ft ct ej ps rl sj hd hg r) (st r))) → wpY_blocked post (sY J R fo ft sg ps rs rl sj se st wt hd lk hg un dn rv mt nx) (nI r) := by
      intro post h
      exact ry_blk hr hR HJ D.1 D.2.2.1 RL SJ SE PS (by rw [e]; exact h)
    by_cases z : ri_obs (ri_eocc hg rl se r) (ri_elck lk rl se r) (ri_nfp R fo ft ct ej ps rl sj hd hg r) (st r) = 0
    · have hs : st r = false := by
        cases w : st r with
        | false => rfl
        | true => rw [w] at z; exact absurd z (by unfold ri_obs; rw [if_pos rfl]; decide)
      have hw : wt r = 0 := by
        by_cases w : wt r = 0
        · exact w
        · have := D.2.2.2.2.2.1 r w; rw [hs] at this; exact absurd this (by decide)
      rw [z] at Yw ⊢
      simp (disch := omega) only [nI_clamp, ri_in, ri_nar1, ri_upd_b, ri_upd_n0, ri_mul5']
      refine br_t rfl ⟨by omega, nm_e (rx_setL (by omega) HJ.2.2.2.1 HJ.2.2.2.2.1 HJ.2.1 HJ.2.2.1 RL SJ SE ?_)⟩
      refine ry_isR1 hR hr (br_f (by decide) (Yw _ (br_t rfl ⟨by omega, nm_e ⟨by omega, nm_e (nm_e ?_)⟩⟩)))
      rw [ri_ui hw]
      refine ry_setL (by omega) HJ RL SJ SE ⟨by trivial, ri_rel ⟨HJ, ri_psS_le PS _, HR, HC, ri_D_set D hr hR RL hs⟩⟩
    · have hz : ¬ nI (ri_obs (ri_eocc hg rl se r) (ri_elck lk rl se r) (ri_nfp R fo ft ct ej ps rl sj hd hg r) (st r)) = 0 := by
        rw [ri_eq0 (by omega)]; exact z
      exact br_f hz (ry_isR1 hR hr (br_f (by decide) (Yw _ (br_f hz ⟨by trivial, K⟩))))
theorem i_vc_cancel {k : Nat} {u : SX} {v : SY} (I : i_Rel k u v) (hk : k + 3 ≤ 1536) (v1 : Int32) : wpX_cancel (fun r u' => wpY_cancel (fun r' v' => r' = r ∧ i_Rel (k + 3) u' v') v v1) u v1 := by
  obtain ⟨J, R, fo, ft, ct, ej, ps, sg, rs, rl, sj, se, cb, st, wt, hd, lk, hg, un, dn, rv, mt, nx, rfl, rfl, H⟩ := I
  have K : i_Rel (k + 3) (sX J R fo ft ct ej ps sg rs rl sj se cb st wt hd lk hg un dn) (sY J R fo ft sg ps rs rl sj se st wt hd lk hg un dn rv mt nx) := ri_rel H
  obtain ⟨HJ, PS, HR, HC, D⟩ := H
  rcases ri_cut v1 (N := R) (by have := HR.1; omega) with z1 | ⟨r, hr, rfl⟩
  · simp only [wpX_cancel, wpY_cancel]
    exact rx_isR0 z1 (br_t rfl (ry_isR0 HR.1 z1 (br_t rfl ⟨by trivial, K⟩)))
  · have tu : ri_trav un r = false → ∀ t, t < 3 → un t ≠ r + 1 := by
      intro h t ht w
      have := ri_ba_f.mp h t ht
      simp only [decide_eq_false_iff_not] at this
      exact this w
    refine rx_cancel hr HR D (fun w => ry_cancel hr HR D (fun _ => ⟨by trivial, K⟩) (fun a b c _ => ?_) (fun a b c _ => ?_)) (fun a b c d => ry_cancel hr HR D (fun w => ?_) (fun _ _ _ _ => ⟨by trivial, ri_rel ⟨HJ, PS, HR, HC, ri_D_wt D a (tu c) (by omega)⟩⟩) (fun _ _ _ d' => ?_)) (fun a b c d => ry_cancel hr HR D (fun w => ?_) (fun _ _ _ d' => ?_) (fun _ _ _ _ => ⟨by trivial, ?_⟩))
    · rcases w with w | w | w
      · rw [a] at w; exact absurd w (by decide)
      · exact absurd b w
      · rw [c] at w; exact absurd w (by decide)
    · rcases w with w | w | w
      · rw [a] at w; exact absurd w (by decide)
      · exact absurd b w
      · rw [c] at w; exact absurd w (by decide)
    · rcases w with w | w | w
      · rw [a] at w; exact absurd w (by decide)
      · exact absurd b w
      · rw [c] at w; exact absurd w (by decide)
    · rw [d] at d'; exact absurd d' (by decide)
    · rcases w with w | w | w
      · rw [a] at w; exact absurd w (by decide)
      · exact absurd b w
      · rw [c] at w; exact absurd w (by decide)
    · rw [d] at d'; exact absurd d' (by decide)
    · have D2 := ri_D_rel D (tu c)
      rw [ri_ui b] at D2 ⊢
      exact ri_rel ⟨HJ, PS, HR, HC, D2⟩
theorem i_vc_tick {k : Nat} {u : SX} {v : SY} (I : i_Rel k u v) (hk : k + 3 ≤ 1536) (v1 : Int32) : wpX_tick (fun r u' => wpY_tick (fun r' v' => r' = r ∧ i_Rel (k + 3) u' v') v v1) u v1 := by
  obtain ⟨J, R, fo, ft, ct, ej, ps, sg, rs, rl, sj, se, cb, st, wt, hd, lk, hg, un, dn, rv, mt, nx, rfl, rfl, H⟩ := I
  obtain ⟨HJ, PS, HR, HC, D⟩ := H
  have go : ∀ c, c ≤ 20 → (∀ i, i < c → ¬ v1 ≤ nI i) → (v1 ≤ nI c ∨ c = 20) → (∀ post : Int32 → SY → Prop, (∃ n, wY_tick_26 post (nI c) n 0 0 (nI J) (nI R) (ri_n fo) (ri_n ft) (ri_b sg) (ri_n ps) (ri_n rs) (ri_n rl) (ri_n sj) (ri_n se) (ri_b st) (ri_n wt) (ri_b hd) (ri_x lk) (ri_y hg) (ri_y un) (ri_n dn) rv mt nx) → wpY_tick post (sY J R fo ft sg ps rs rl sj se st wt hd lk hg un dn rv mt nx) v1) → wpX_tick (fun r u' => wpY_tick (fun r' v' => r' = r ∧ i_Rel (k + 3) u' v') (sY J R fo ft sg ps rs rl sj se st wt hd lk hg un dn rv mt nx) v1) (sX J R fo ft ct ej ps sg rs rl sj se cb st wt hd lk hg un dn) v1 := by
    intro c hc h1 h2 hY
    obtain ⟨q, st', wt', hd', lk', hg', un', dn', D', gX, gY⟩ := ri_tck (fo := fo) (ft := ft) (ct := ct) (ej := ej) (ps := ps) (sg := sg) (cb := cb) (rv := rv) (mt := mt) (nx := nx) HR hc h1 h2 c 0 (by omega) st wt hd lk hg un dn 0 D
    exact ⟨c + 1, gX _ (hY _ ⟨c + 1, gY _ ⟨by trivial, ri_rel ⟨HJ, PS, HR, HC, D'⟩⟩⟩)⟩
  by_cases z : v1 < 0
  · refine go 0 (by omega) (fun i hi => by omega) (Or.inl (Int32.le_of_lt z)) (fun post h => ?_)
    exact br_f (Int32.not_le.mpr z) h
  · have z' : 0 ≤ v1 := Int32.not_lt.mp z
    obtain ⟨m, hm, rfl⟩ := nI_of z
    by_cases y : m ≤ 20
    · refine go m y (fun i hi => nI_ge hi hm) (Or.inl (nI_le (Nat.le_refl _) hm)) (fun post h => ?_)
      exact br_t z' (br_t (nI_le (b := 20) y (by omega)) h)
    · refine go 20 (by omega) (fun i hi => nI_ge (by omega) hm) (Or.inr rfl) (fun post h => ?_)
      exact br_t z' (br_f (nI_ge (a := 20) (by omega) hm) h)
theorem i_vc_routes {k : Nat} {u : SX} {v : SY} (I : i_Rel k u v) (hk : k + 3 ≤ 1536) : wpX_routes (fun r => wpY_routes (fun r' => r' = r ∧ i_Rel (k + 3) u v) v) u := by
  obtain ⟨J, R, fo, ft, ct, ej, ps, sg, rs, rl, sj, se, cb, st, wt, hd, lk, hg, un, dn, rv, mt, nx, rfl, rfl, H⟩ := I
  exact ⟨by trivial, ri_rel H⟩
theorem i_vc_via {k : Nat} {u : SX} {v : SY} (I : i_Rel k u v) (hk : k + 3 ≤ 1536) (v1 : Int32) (v2 : Int32) : wpX_via (fun r => wpY_via (fun r' => r' = r ∧ i_Rel (k + 3) u v) v v1 v2) u v1 v2 := by
  obtain ⟨J, R, fo, ft, ct, ej, ps, sg, rs, rl, sj, se, cb, st, wt, hd, lk, hg, un, dn, rv, mt, nx, rfl, rfl, H⟩ := I
  have K : i_Rel (k + 3) (sX J R fo ft ct ej ps sg rs rl sj se cb st wt hd lk hg un dn) (sY J R fo ft sg ps rs rl sj se st wt hd lk hg un dn rv mt nx) := ri_rel H
  obtain ⟨HJ, PS, HR, HC, D⟩ := H
  have hR := HR.1
  simp only [wpX_via, wpY_via]
  rcases ri_cut v1 (N := R) (by omega) with z1 | ⟨r, hr, rfl⟩
  · exact rx_isR0 z1 (br_t rfl (ry_isR0 hR z1 (br_t rfl ⟨by trivial, K⟩)))
  · have hl := HR.2.2.1 r
    have hl1 := HR.2.2.2.2.2.1 r hr
    simp (disch := omega) only [nI_clamp, ri_in, ri_n_ap, ri_sub1, ri_mul5, ri_mul5']
    refine rx_isR1 hR hr (br_f (by decide) ?_)
    rcases ri_cut v2 (N := rl r) (by omega) with z2 | ⟨i, hi, rfl⟩
    · have Yb : ∀ P : Int32 → Prop, P 0 → wpY_in P (sY J R fo ft sg ps rs rl sj se st wt hd lk hg un dn rv mt nx) v2 0 (nI (rl r - 1)) := fun P p => ry_inN0 (rl r - 1) (by omega) (by rw [show rl r - 1 + 1 = rl r by omega]; exact z2) p
      by_cases y : v2 < 0
      · exact br_t y (ry_isR1 hR hr (br_f (by decide) ⟨by omega, Yb _ (br_t rfl ⟨by trivial, K⟩)⟩))
      · refine br_f y ⟨by omega, br_f ?_ (ry_isR1 hR hr (br_f (by decide) ⟨by omega, Yb _ (br_t rfl ⟨by trivial, K⟩)⟩))⟩
        exact Int32.not_lt.mpr (z2.resolve_left y)
    · simp (disch := omega) only [nI_add, nI_clamp, ri_in]
      refine br_f (nI_pos (by omega)) ⟨by omega, br_t (nI_lt hi (by omega)) ⟨by omega, ?_⟩⟩
      exact ry_isR1 hR hr (br_f (by decide) ⟨by omega, ry_inN1 (rl r - 1) (by omega) (by omega) (br_f (by decide) ⟨by omega, by trivial, K⟩)⟩)
theorem i_vc_position {k : Nat} {u : SX} {v : SY} (I : i_Rel k u v) (hk : k + 3 ≤ 1536) (v1 : Int32) : wpX_position (fun r => wpY_position (fun r' => r' = r ∧ i_Rel (k + 3) u v) v v1) u v1 := by
  obtain ⟨J, R, fo, ft, ct, ej, ps, sg, rs, rl, sj, se, cb, st, wt, hd, lk, hg, un, dn, rv, mt, nx, rfl, rfl, H⟩ := I
  have K : i_Rel (k + 3) (sX J R fo ft ct ej ps sg rs rl sj se cb st wt hd lk hg un dn) (sY J R fo ft sg ps rs rl sj se st wt hd lk hg un dn rv mt nx) := ri_rel H
  obtain ⟨HJ, PS, HR, HC, D⟩ := H
  simp only [wpX_position, wpY_position]
  rcases ri_cut v1 (N := 20) (by omega) with z1 | ⟨a, ha, rfl⟩
  · exact rx_isE0 z1 (br_t rfl (ry_inN0 19 (by omega) z1 (br_t rfl ⟨by trivial, K⟩)))
  · have hc := HJ.2.2.2.1 a
    simp (disch := omega) only [nI_clamp, ri_in, ri_n_ap]
    refine rx_isE1 ha (br_f (by decide) (rx_point ha HJ.2.2.2.1 ?_))
    by_cases z : ct a = 2
    · rw [decide_eq_true z]
      refine br_f (by decide) ⟨ha, ry_inN1 19 (by omega) ha (br_f (by decide) (ry_jats ha HJ ?_))⟩
      rw [z]
      exact br_t rfl ⟨ha, by trivial, K⟩
    · rw [decide_eq_false z]
      refine br_t rfl (ry_inN1 19 (by omega) ha (br_f (by decide) (ry_jats ha HJ ?_)))
      simp (disch := omega) only [ri_eq2]
      exact br_f z ⟨by trivial, K⟩
theorem i_vc_lock {k : Nat} {u : SX} {v : SY} (I : i_Rel k u v) (hk : k + 3 ≤ 1536) (v1 : Int32) : wpX_lock (fun r => wpY_lock (fun r' => r' = r ∧ i_Rel (k + 3) u v) v v1) u v1 := by
  obtain ⟨J, R, fo, ft, ct, ej, ps, sg, rs, rl, sj, se, cb, st, wt, hd, lk, hg, un, dn, rv, mt, nx, rfl, rfl, H⟩ := I
  have K : i_Rel (k + 3) (sX J R fo ft ct ej ps sg rs rl sj se cb st wt hd lk hg un dn) (sY J R fo ft sg ps rs rl sj se st wt hd lk hg un dn rv mt nx) := ri_rel H
  simp only [wpX_lock, wpY_lock]
  rcases ri_cut v1 (N := 10) (by omega) with z1 | ⟨a, ha, rfl⟩
  · exact rx_isS0 z1 (br_t rfl (ry_inN0 9 (by omega) z1 (br_t rfl ⟨by trivial, K⟩)))
  · have hi : vp_in (nI a) 10 := vp_in_nI ha (by omega)
    exact rx_isS1 ha (br_f (by decide) ⟨hi, ry_inN1 9 (by omega) ha (br_f (by decide) ⟨hi, by trivial, K⟩)⟩)
theorem i_vc_train {k : Nat} {u : SX} {v : SY} (I : i_Rel k u v) (hk : k + 3 ≤ 1536) (v1 : Int32) : wpX_train (fun r => wpY_train (fun r' => r' = r ∧ i_Rel (k + 3) u v) v v1) u v1 := by
  obtain ⟨J, R, fo, ft, ct, ej, ps, sg, rs, rl, sj, se, cb, st, wt, hd, lk, hg, un, dn, rv, mt, nx, rfl, rfl, H⟩ := I
  have K : i_Rel (k + 3) (sX J R fo ft ct ej ps sg rs rl sj se cb st wt hd lk hg un dn) (sY J R fo ft sg ps rs rl sj se st wt hd lk hg un dn rv mt nx) := ri_rel H
  obtain ⟨HJ, PS, HR, HC, D⟩ := H
  simp only [wpX_train, wpY_train]
  rcases ri_cut v1 (N := 3) (by omega) with z1 | ⟨t, ht, rfl⟩
  · exact rx_isT0 z1 (br_t rfl (ry_inN0 2 (by omega) z1 (br_t rfl ⟨by trivial, K⟩)))
  · have h1 := D.1 t
    have h2 := D.2.1 t
    simp (disch := omega) only [nI_clamp, ri_in, ri_x_ap, ri_y_ap, ri_cx_z, ri_cy_g]
    refine rx_isT1 ht (br_f (by decide) ⟨ht, br_c (fun z => ⟨ht, ?_⟩) (fun z => ⟨ht, ht, ?_⟩)⟩)
    · refine ry_inN1 2 (by omega) ht (br_f (by decide) ⟨ht, br_c (fun y => ⟨ht, ht, ?_, K⟩) (fun y => ⟨?_, K⟩)⟩)
      · rw [z, ri_cx_p y, ri_cy_p y, show (100 : Int32) * (ri_cy 0 + 1) = 0 from by decide, Int32.add_zero]
      · rw [show hg t = 0 by omega]; rfl
    · have h3 := (D.2.2.2.2.2.2.2.2.2.1 t ht z).1
      refine ry_inN1 2 (by omega) ht (br_f (by decide) ⟨ht, br_t h3 ⟨ht, ht, ?_, K⟩⟩)
      rw [ri_cx_p z, ri_cy_p z, ri_cx_p h3, ri_cy_p h3]
theorem i_vc_blocked {k : Nat} {u : SX} {v : SY} (I : i_Rel k u v) (hk : k + 3 ≤ 1536) (v1 : Int32) : wpX_blocked (fun r => wpY_blocked (fun r' => r' = r ∧ i_Rel (k + 3) u v) v v1) u v1 := by
  obtain ⟨J, R, fo, ft, ct, ej, ps, sg, rs, rl, sj, se, cb, st, wt, hd, lk, hg, un, dn, rv, mt, nx, rfl, rfl, H⟩ := I
  have K : i_Rel (k + 3) (sX J R fo ft ct ej ps sg rs rl sj se cb st wt hd lk hg un dn) (sY J R fo ft sg ps rs rl sj se st wt hd lk hg un dn rv mt nx) := ri_rel H
  obtain ⟨HJ, PS, HR, HC, D⟩ := H
  have HR' := HR
  obtain ⟨hR, RS, RL, SJ, SE, R1, R2⟩ := HR'
  rcases ri_cut v1 (N := R) (by omega) with z1 | ⟨r, hr, rfl⟩
  · simp only [wpX_blocked, wpY_blocked]
    exact rx_isR0 z1 (br_t rfl (ry_isR0 hR z1 (br_t rfl ⟨by trivial, K⟩)))
  · simp only [wpX_blocked]
    refine rx_isR1 hR hr (br_f (by decide) (rx_obs (by omega) hR D.1 D.2.2.1 HJ.2.2.2.1 HJ.2.2.2.2.1 PS RL SJ SE HJ.2.1 HJ.2.2.1 ?_))
    refine ry_blk hr hR HJ D.1 D.2.2.1 RL SJ SE PS ⟨?_, K⟩
    rw [ri_stkeq hr HJ PS HR D]
theorem i_vc_conflict {k : Nat} {u : SX} {v : SY} (I : i_Rel k u v) (hk : k + 3 ≤ 1536) (v1 : Int32) (v2 : Int32) : wpX_conflict (fun r => wpY_conflict (fun r' => r' = r ∧ i_Rel (k + 3) u v) v v1 v2) u v1 v2 := by
  obtain ⟨J, R, fo, ft, ct, ej, ps, sg, rs, rl, sj, se, cb, st, wt, hd, lk, hg, un, dn, rv, mt, nx, rfl, rfl, H⟩ := I
  have K : i_Rel (k + 3) (sX J R fo ft ct ej ps sg rs rl sj se cb st wt hd lk hg un dn) (sY J R fo ft sg ps rs rl sj se st wt hd lk hg un dn rv mt nx) := ri_rel H
  obtain ⟨HJ, PS, HR, HC, D⟩ := H
  have HR' := HR
  obtain ⟨hR, RS, RL, SJ, SE, R1, R2⟩ := HR'
  simp only [wpX_conflict]
  rcases ri_cut v1 (N := R) (by omega) with z1 | ⟨r, hr, rfl⟩
  · simp only [wpY_conflict]
    exact rx_isR0 z1 (br_t rfl (ry_isR0 hR z1 (br_t rfl ⟨by trivial, K⟩)))
  · refine rx_isR1 hR hr (br_f (by decide) ?_)
    rcases ri_cut v2 (N := R) (by omega) with z2 | ⟨q, hq, rfl⟩
    · simp only [wpY_conflict]
      exact rx_isR0 z2 (br_t rfl (ry_isR1 hR hr (br_f (by decide) (ry_isR0 hR z2 (br_t rfl ⟨by trivial, K⟩)))))
    · have hb := ri_bm_lt (ri_row fo ft rl sj se r) R
      have hp := ri_p31 (n := R) (by omega)
      have h8 : ri_bm (ri_row fo ft rl sj se r) R / 2 ^ q < 2 ^ 31 := by
        have := Nat.div_le_self (ri_bm (ri_row fo ft rl sj se r) R) (2 ^ q); omega
      refine rx_isR1 hR hq (br_f (by decide) ?_)
      simp (disch := omega) only [nI_clamp, ri_in]
      rw [HC r hr]
      simp (disch := omega) only [ri_shr, ri_a1, ri_eq0, ri_bm_t]
      refine ⟨by omega, br_c (fun z => ?_) (fun z => ?_)⟩
      · refine ry_cf hr hq hR HJ RL SJ SE (fun r hr k hk => (R2 r hr k hk).1) ⟨?_, K⟩
        rw [z]; rfl
      · refine ry_cf hr hq hR HJ RL SJ SE (fun r hr k hk => (R2 r hr k hk).1) ⟨?_, K⟩
        rw [Bool.not_eq_false] at z
        rw [z]; rfl
theorem i_vc_largest {k : Nat} {u : SX} {v : SY} (I : i_Rel k u v) (hk : k + 3 ≤ 1536) : wpX_largest (fun r => wpY_largest (fun r' v' => r' = r ∧ i_Rel (k + 3) u v') v) u := by
  obtain ⟨J, R, fo, ft, ct, ej, ps, sg, rs, rl, sj, se, cb, st, wt, hd, lk, hg, un, dn, rv, mt, nx, rfl, rfl, H⟩ := I
  have HH := H
  obtain ⟨HJ, PS, HR, HC, D⟩ := HH
  obtain ⟨hR, RS, RL, SJ, SE, R1, R2⟩ := HR
  exact rx_largest hR HC (ry_largest hR HJ RL SJ SE (fun r hr k hk => (R2 r hr k hk).1) (fun rv' => ⟨by trivial, ri_rel H⟩))
theorem i_vc_hops {k : Nat} {u : SX} {v : SY} (I : i_Rel k u v) (hk : k + 3 ≤ 1536) (v1 : Int32) (v2 : Int32) : wpX_hops (fun r => wpY_hops (fun r' v' => r' = r ∧ i_Rel (k + 3) u v') v v1 v2) u v1 v2 := by
  obtain ⟨J, R, fo, ft, ct, ej, ps, sg, rs, rl, sj, se, cb, st, wt, hd, lk, hg, un, dn, rv, mt, nx, rfl, rfl, H⟩ := I
  have K : i_Rel (k + 3) (sX J R fo ft ct ej ps sg rs rl sj se cb st wt hd lk hg un dn) (sY J R fo ft sg ps rs rl sj se st wt hd lk hg un dn rv mt nx) := ri_rel H
  have HH := H
  obtain ⟨HJ, PS, HR, HC, D⟩ := HH
  obtain ⟨hR, RS, RL, SJ, SE, R1, R2⟩ := HR
  rcases ri_cut v1 (N := 20) (by omega) with z1 | ⟨a, ha, rfl⟩
  · simp only [wpX_hops, wpY_hops]
    exact rx_isE0 z1 (br_t rfl (ry_inN0 19 (by omega) z1 (br_t rfl ⟨by trivial, K⟩)))
  · rcases ri_cut v2 (N := 10) (by omega) with z2 | ⟨s, hs, rfl⟩
    · simp only [wpX_hops, wpY_hops]
      exact rx_isE1 ha (br_f (by decide) (rx_isS0 z2 (br_t rfl (ry_inN1 19 (by omega) ha (br_f (by decide) (ry_inN0 9 (by omega) z2 (br_t rfl ⟨by trivial, K⟩)))))))
    · refine rx_hops ha hs hR RS RL R1 SE (fun z => ?_) (fun z => ?_)
      · exact ry_hops ha hs hR RS RL R1 SE (fun _ => ⟨by trivial, K⟩) (fun y => absurd z y)
      · refine ry_hops ha hs hR RS RL R1 SE (fun y => absurd y z) (fun _ mt' nx' => ⟨?_, ri_rel H⟩)
        rw [ri_hopeq hR z]
end
