theorem pk_us {f : Nat → Int32} {k : Nat} {x : Int32} : upd f k x k = x := if_pos rfl
theorem pk_un {f : Nat → Int32} {k j : Nat} {x : Int32} (h : j ≠ k) : upd f k x j = f j := if_neg h
theorem pk_sub {a b : Nat} (h : b ≤ a) : nI a - nI b = nI (a - b) := by
  obtain ⟨c, rfl⟩ : ∃ c, a = c + b := ⟨a - b, by omega⟩
  rw [← nI_add, Int32.add_sub_cancel, Nat.add_sub_cancel]
theorem pk_m1 (n : Nat) : nI (n + 1) + (-1) = nI n := by
  rw [← nI_1, Int32.add_assoc, show (1 : Int32) + (-1) = 0 from rfl, Int32.add_zero]
theorem pk_mul (a b : Nat) : nI a * nI b = nI (a * b) := (Int32.ofNat_mul a b).symm
theorem pk_div {a d : Nat} (ha : a < 2 ^ 31) (h0 : 0 < d) (hd : d < 2 ^ 31) : nI a / nI d = nI (a / d) := by
  apply Int32.toInt_inj.mp
  rw [lg_idiv_nonneg (by rw [nI_toInt ha]; omega) (by rw [nI_toInt hd]; omega), nI_toInt ha, nI_toInt hd, nI_toInt (Nat.lt_of_le_of_lt (Nat.div_le_self a d) ha)]
  first | rfl | exact (Int.natCast_ediv _ _).symm
theorem pk_rem {a d : Nat} (ha : a < 2 ^ 31) (h0 : 0 < d) (hd : d < 2 ^ 31) : nI a - nI a / nI d * nI d = nI (a % d) := by
  rw [pk_div ha h0 hd, pk_mul, pk_sub (Nat.div_mul_le_self a d)]
  exact congrArg nI (by have := Nat.div_add_mod' a d; omega)
theorem pk_sub_toInt {a b : Nat} (ha : a < 2 ^ 30) (hb : b < 2 ^ 30) : (nI a - nI b).toInt = (a : Int) - b := by
  rw [Int32.toInt_sub, nI_toInt (by omega), nI_toInt (by omega)]
  exact Int.bmod_eq_of_le (by omega) (by omega)
theorem pk_sneg {a b : Nat} (hb : b < 2 ^ 30) (h : a < b) : nI a - nI b < 0 := by
  rw [Int32.lt_iff_toInt_lt, pk_sub_toInt (by omega) hb, show (0 : Int32).toInt = 0 from by decide]
  omega
theorem pk_least (P : Nat → Prop) (h : ∃ k, P k) : ∃ k, P k ∧ ∀ j, j < k → ¬ P j := by
  obtain ⟨k, hk⟩ := h
  induction k using Nat.strongRecOn with
  | ind k ih =>
    by_cases e : ∃ j, j < k ∧ P j
    · obtain ⟨j, hj, pj⟩ := e
      exact ih j hj pj
    · exact ⟨k, hk, fun j hj pj => e ⟨j, hj, pj⟩⟩
theorem pk_ix (x : Int32) {n : Nat} (hn : n < 2 ^ 31) : x < 0 ∨ nI n ≤ x ∨ ∃ j : Nat, j < n ∧ x = nI j := by
  by_cases h : x < 0
  · exact Or.inl h
  · obtain ⟨j, hj, rfl⟩ := nI_of h
    by_cases h2 : j < n
    · exact Or.inr (Or.inr ⟨j, h2, rfl⟩)
    · exact Or.inr (Or.inl (nI_le (by omega) hj))
theorem pk_le {x y : Int32} {A B : Prop} (a b : Nat) (f : a ≤ b → A) (g : b < a → B) (hx : x = nI a := by rfl) (hy : y = nI b := by rfl) (ha : a < 2 ^ 31 := by omega) (hb : b < 2 ^ 31 := by omega) : (x ≤ y → A) ∧ (¬ x ≤ y → B) := by
  subst hx hy
  rw [nI_leI ha hb]
  exact ⟨f, fun z => g (by omega)⟩
theorem pk_lt {x y : Int32} {A B : Prop} (a b : Nat) (f : a < b → A) (g : b ≤ a → B) (hx : x = nI a := by rfl) (hy : y = nI b := by rfl) (ha : a < 2 ^ 31 := by omega) (hb : b < 2 ^ 31 := by omega) : (x < y → A) ∧ (¬ x < y → B) := by
  subst hx hy
  rw [nI_ltI ha hb]
  exact ⟨f, fun z => g (by omega)⟩
theorem pk_eq {x y : Int32} {A B : Prop} (a b : Nat) (f : a = b → A) (g : a ≠ b → B) (hx : x = nI a := by rfl) (hy : y = nI b := by rfl) (ha : a < 2 ^ 31 := by omega) (hb : b < 2 ^ 31 := by omega) : (x = y → A) ∧ (¬ x = y → B) := by
  subst hx hy
  rw [nI_eq ha hb]
  exact ⟨f, g⟩
theorem pk_in {x : Int32} (n N : Nat) (h : n < N) (hx : x = nI n := by rfl) (hN : N < 2 ^ 31 := by omega) : vp_in x N := by
  subst hx
  exact vp_in_nI h hN
theorem pk_cl {x : Int32} (n : Nat) (hx : x = nI n := by rfl) (h : n < 2 ^ 31 := by omega) : x.toNatClampNeg = n := by
  subst hx
  exact nI_clamp h
theorem pk_tn {n : Nat} (h : n < 2 ^ 32) : (nI n).toBitVec.toNat = n := Nat.mod_eq_of_lt h
theorem pk_and (x : Int32) {m : Int32} (k : Nat) (hm : m.toBitVec.toNat = 2 ^ k - 1) : x &&& m = nI (x.toBitVec.toNat % 2 ^ k) := by
  apply Int32.toBitVec_inj.mp
  apply BitVec.eq_of_toNat_eq
  rw [Int32.toBitVec_and, BitVec.toNat_and, hm, Nat.and_two_pow_sub_one_eq_mod]
  show _ = (BitVec.ofNat 32 _).toNat
  rw [BitVec.toNat_ofNat]
  exact (Nat.mod_eq_of_lt (Nat.lt_of_le_of_lt (Nat.mod_le _ _) x.toBitVec.isLt)).symm
theorem pk_andN {n : Nat} (h : n < 2 ^ 32) {m : Int32} (k : Nat) (hm : m.toBitVec.toNat = 2 ^ k - 1) : nI n &&& m = nI (n % 2 ^ k) := by
  rw [pk_and _ k hm, pk_tn h]
theorem pk_shl (a s : Int32) (k : Nat) (hs : (s.toBitVec.smod 32).toNat = k) : (a <<< s).toBitVec.toNat = a.toBitVec.toNat * 2 ^ k % 2 ^ 32 := by
  show (a.toBitVec <<< (s.toBitVec.smod 32).toNat).toNat = _
  rw [hs, BitVec.toNat_shiftLeft, Nat.shiftLeft_eq]
theorem pk_shlN {n : Nat} (s : Int32) (k : Nat) (hs : (s.toBitVec.smod 32).toNat = k) (h : n * 2 ^ k < 2 ^ 32) : nI n <<< s = nI (n * 2 ^ k) := by
  apply Int32.toBitVec_inj.mp
  apply BitVec.eq_of_toNat_eq
  have hn : n < 2 ^ 32 := Nat.lt_of_le_of_lt (Nat.le_mul_of_pos_right n (Nat.two_pow_pos k)) h
  rw [pk_shl _ _ k hs, pk_tn hn, pk_tn h, Nat.mod_eq_of_lt h]
theorem pk_shr (a s : Int32) (k : Nat) (hs : (s.toBitVec.smod 32).toNat = k) : (a >>> s).toInt = a.toInt >>> k := by
  show (a.toBitVec.sshiftRight (s.toBitVec.smod 32).toNat).toInt = _
  rw [hs, BitVec.toInt_sshiftRight]
  rfl
theorem pk_shrN {n : Nat} (h : n < 2 ^ 31) (s : Int32) (k : Nat) (hs : (s.toBitVec.smod 32).toNat = k) : nI n >>> s = nI (n / 2 ^ k) := by
  apply Int32.toInt_inj.mp
  have h2 : n / 2 ^ k ≤ n := Nat.div_le_self _ _
  rw [pk_shr _ _ k hs, nI_toInt h, nI_toInt (by omega), Int.shiftRight_eq_div_pow]
  rfl
theorem nx_and (a b : Nat) : nI a &&& nI b = nI (a &&& b) := by
  apply Int32.toBitVec_inj.1
  show BitVec.ofNat 32 a &&& BitVec.ofNat 32 b = BitVec.ofNat 32 (a &&& b)
  apply BitVec.eq_of_getLsbD_eq
  intro i hi
  simp [hi]
def ri_B (b : Bool) : Int32 := if b = true then 1 else 0
def ri_cx (n : Nat) : Int32 := if n = 0 then -2 else nI (n - 1)
def ri_cy (n : Nat) : Int32 := if n = 0 then -1 else nI (n - 1)
def ri_n (f : Nat → Nat) : Nat → Int32 := fun j => nI (f j)
def ri_b (f : Nat → Bool) : Nat → Int32 := fun j => ri_B (f j)
def ri_x (f : Nat → Nat) : Nat → Int32 := fun j => ri_cx (f j)
def ri_y (f : Nat → Nat) : Nat → Int32 := fun j => ri_cy (f j)
def ri_u {α : Type} (f : Nat → α) (k : Nat) (v : α) : Nat → α := fun j => if j = k then v else f j
theorem ri_us {α : Type} {f : Nat → α} {k : Nat} {v : α} : ri_u f k v k = v := if_pos rfl
theorem ri_un {α : Type} {f : Nat → α} {k j : Nat} {v : α} (h : j ≠ k) : ri_u f k v j = f j := if_neg h
theorem ri_ui {α : Type} {f : Nat → α} {k : Nat} {v : α} (h : f k = v) : ri_u f k v = f := by
  funext j
  by_cases e : j = k
  · subst e; rw [ri_us, h]
  · rw [ri_un e]
theorem ri_n_ap (f : Nat → Nat) (j : Nat) : ri_n f j = nI (f j) := rfl
theorem ri_b_ap (f : Nat → Bool) (j : Nat) : ri_b f j = ri_B (f j) := rfl
theorem ri_x_ap (f : Nat → Nat) (j : Nat) : ri_x f j = ri_cx (f j) := rfl
theorem ri_y_ap (f : Nat → Nat) (j : Nat) : ri_y f j = ri_cy (f j) := rfl
theorem ri_upd_n (f : Nat → Nat) (k v : Nat) : upd (ri_n f) k (nI v) = ri_n (ri_u f k v) := by
  funext j; simp only [upd, ri_n, ri_u]; split <;> rfl
theorem ri_upd_n0 (f : Nat → Nat) (k : Nat) : upd (ri_n f) k 0 = ri_n (ri_u f k 0) := ri_upd_n f k 0
theorem ri_upd_n1 (f : Nat → Nat) (k : Nat) : upd (ri_n f) k 1 = ri_n (ri_u f k 1) := ri_upd_n f k 1
theorem ri_upd_n3 (f : Nat → Nat) (k : Nat) : upd (ri_n f) k 3 = ri_n (ri_u f k 3) := ri_upd_n f k 3
theorem ri_upd_b (f : Nat → Bool) (k : Nat) (v : Bool) : upd (ri_b f) k (ri_B v) = ri_b (ri_u f k v) := by
  funext j; simp only [upd, ri_b, ri_u]; split <;> rfl
theorem ri_nar (b : Bool) : vp_nar .boolean (ri_B b) = ri_B b := by cases b <;> rfl
theorem ri_nar0 : vp_nar .boolean 0 = ri_B false := rfl
theorem ri_nar1 : vp_nar .boolean 1 = ri_B true := rfl
theorem ri_narr (b : Bool) : narrow .boolean (.int (ri_B b)) = .int (ri_B b) := by cases b <;> rfl
theorem ri_upd_x (f : Nat → Nat) (k v : Nat) : upd (ri_x f) k (ri_cx v) = ri_x (ri_u f k v) := by
  funext j; simp only [upd, ri_x, ri_u]; split <;> rfl
theorem ri_upd_y (f : Nat → Nat) (k v : Nat) : upd (ri_y f) k (ri_cy v) = ri_y (ri_u f k v) := by
  funext j; simp only [upd, ri_y, ri_u]; split <;> rfl
theorem ri_cx_s (v : Nat) : ri_cx (v + 1) = nI v := rfl
theorem ri_cy_s (v : Nat) : ri_cy (v + 1) = nI v := rfl
theorem ri_cx_p {v : Nat} (h : v ≠ 0) : ri_cx v = nI (v - 1) := if_neg h
theorem ri_cy_p {v : Nat} (h : v ≠ 0) : ri_cy v = nI (v - 1) := if_neg h
theorem ri_upd_x0 (f : Nat → Nat) (k : Nat) : upd (ri_x f) k (-2) = ri_x (ri_u f k 0) := ri_upd_x f k 0
theorem ri_upd_y0 (f : Nat → Nat) (k : Nat) : upd (ri_y f) k (-1) = ri_y (ri_u f k 0) := ri_upd_y f k 0
theorem ri_upd_xs (f : Nat → Nat) (k v : Nat) : upd (ri_x f) k (nI v) = ri_x (ri_u f k (v + 1)) := ri_upd_x f k (v + 1)
theorem ri_upd_ys (f : Nat → Nat) (k v : Nat) : upd (ri_y f) k (nI v) = ri_y (ri_u f k (v + 1)) := ri_upd_y f k (v + 1)
theorem ri_le0 {i : Nat} (h : i < 2 ^ 31) : (((0 : Int32) ≤ nI i)) ↔ 0 ≤ i := nI_leI (a := 0) (by decide) h
theorem ri_ge0 {i : Nat} (h : i < 2 ^ 31) : ((nI i ≤ (0 : Int32))) ↔ i ≤ 0 := nI_leI (b := 0) h (by decide)
theorem ri_lt0 {i : Nat} (h : i < 2 ^ 31) : (((0 : Int32) < nI i)) ↔ 0 < i := nI_ltI (a := 0) (by decide) h
theorem ri_gt0 {i : Nat} (h : i < 2 ^ 31) : ((nI i < (0 : Int32))) ↔ i < 0 := nI_ltI (b := 0) h (by decide)
theorem ri_eq0 {i : Nat} (h : i < 2 ^ 31) : ((nI i = (0 : Int32))) ↔ i = 0 := nI_eq (b := 0) h (by decide)
theorem ri_le1 {i : Nat} (h : i < 2 ^ 31) : (((1 : Int32) ≤ nI i)) ↔ 1 ≤ i := nI_leI (a := 1) (by decide) h
theorem ri_ge1 {i : Nat} (h : i < 2 ^ 31) : ((nI i ≤ (1 : Int32))) ↔ i ≤ 1 := nI_leI (b := 1) h (by decide)
theorem ri_lt1 {i : Nat} (h : i < 2 ^ 31) : (((1 : Int32) < nI i)) ↔ 1 < i := nI_ltI (a := 1) (by decide) h
theorem ri_gt1 {i : Nat} (h : i < 2 ^ 31) : ((nI i < (1 : Int32))) ↔ i < 1 := nI_ltI (b := 1) h (by decide)
theorem ri_eq1 {i : Nat} (h : i < 2 ^ 31) : ((nI i = (1 : Int32))) ↔ i = 1 := nI_eq (b := 1) h (by decide)
theorem ri_le2 {i : Nat} (h : i < 2 ^ 31) : (((2 : Int32) ≤ nI i)) ↔ 2 ≤ i := nI_leI (a := 2) (by decide) h
theorem ri_ge2 {i : Nat} (h : i < 2 ^ 31) : ((nI i ≤ (2 : Int32))) ↔ i ≤ 2 := nI_leI (b := 2) h (by decide)
theorem ri_lt2 {i : Nat} (h : i < 2 ^ 31) : (((2 : Int32) < nI i)) ↔ 2 < i := nI_ltI (a := 2) (by decide) h
theorem ri_gt2 {i : Nat} (h : i < 2 ^ 31) : ((nI i < (2 : Int32))) ↔ i < 2 := nI_ltI (b := 2) h (by decide)
theorem ri_eq2 {i : Nat} (h : i < 2 ^ 31) : ((nI i = (2 : Int32))) ↔ i = 2 := nI_eq (b := 2) h (by decide)
theorem ri_le3 {i : Nat} (h : i < 2 ^ 31) : (((3 : Int32) ≤ nI i)) ↔ 3 ≤ i := nI_leI (a := 3) (by decide) h
theorem ri_ge3 {i : Nat} (h : i < 2 ^ 31) : ((nI i ≤ (3 : Int32))) ↔ i ≤ 3 := nI_leI (b := 3) h (by decide)
theorem ri_lt3 {i : Nat} (h : i < 2 ^ 31) : (((3 : Int32) < nI i)) ↔ 3 < i := nI_ltI (a := 3) (by decide) h
theorem ri_gt3 {i : Nat} (h : i < 2 ^ 31) : ((nI i < (3 : Int32))) ↔ i < 3 := nI_ltI (b := 3) h (by decide)
theorem ri_eq3 {i : Nat} (h : i < 2 ^ 31) : ((nI i = (3 : Int32))) ↔ i = 3 := nI_eq (b := 3) h (by decide)
theorem ri_le4 {i : Nat} (h : i < 2 ^ 31) : (((4 : Int32) ≤ nI i)) ↔ 4 ≤ i := nI_leI (a := 4) (by decide) h
theorem ri_ge4 {i : Nat} (h : i < 2 ^ 31) : ((nI i ≤ (4 : Int32))) ↔ i ≤ 4 := nI_leI (b := 4) h (by decide)
theorem ri_lt4 {i : Nat} (h : i < 2 ^ 31) : (((4 : Int32) < nI i)) ↔ 4 < i := nI_ltI (a := 4) (by decide) h
theorem ri_gt4 {i : Nat} (h : i < 2 ^ 31) : ((nI i < (4 : Int32))) ↔ i < 4 := nI_ltI (b := 4) h (by decide)
theorem ri_eq4 {i : Nat} (h : i < 2 ^ 31) : ((nI i = (4 : Int32))) ↔ i = 4 := nI_eq (b := 4) h (by decide)
theorem ri_le5 {i : Nat} (h : i < 2 ^ 31) : (((5 : Int32) ≤ nI i)) ↔ 5 ≤ i := nI_leI (a := 5) (by decide) h
theorem ri_ge5 {i : Nat} (h : i < 2 ^ 31) : ((nI i ≤ (5 : Int32))) ↔ i ≤ 5 := nI_leI (b := 5) h (by decide)
theorem ri_lt5 {i : Nat} (h : i < 2 ^ 31) : (((5 : Int32) < nI i)) ↔ 5 < i := nI_ltI (a := 5) (by decide) h
theorem ri_gt5 {i : Nat} (h : i < 2 ^ 31) : ((nI i < (5 : Int32))) ↔ i < 5 := nI_ltI (b := 5) h (by decide)
theorem ri_eq5 {i : Nat} (h : i < 2 ^ 31) : ((nI i = (5 : Int32))) ↔ i = 5 := nI_eq (b := 5) h (by decide)
theorem ri_le10 {i : Nat} (h : i < 2 ^ 31) : (((10 : Int32) ≤ nI i)) ↔ 10 ≤ i := nI_leI (a := 10) (by decide) h
theorem ri_ge10 {i : Nat} (h : i < 2 ^ 31) : ((nI i ≤ (10 : Int32))) ↔ i ≤ 10 := nI_leI (b := 10) h (by decide)
theorem ri_lt10 {i : Nat} (h : i < 2 ^ 31) : (((10 : Int32) < nI i)) ↔ 10 < i := nI_ltI (a := 10) (by decide) h
theorem ri_gt10 {i : Nat} (h : i < 2 ^ 31) : ((nI i < (10 : Int32))) ↔ i < 10 := nI_ltI (b := 10) h (by decide)
theorem ri_eq10 {i : Nat} (h : i < 2 ^ 31) : ((nI i = (10 : Int32))) ↔ i = 10 := nI_eq (b := 10) h (by decide)
theorem ri_le12 {i : Nat} (h : i < 2 ^ 31) : (((12 : Int32) ≤ nI i)) ↔ 12 ≤ i := nI_leI (a := 12) (by decide) h
theorem ri_ge12 {i : Nat} (h : i < 2 ^ 31) : ((nI i ≤ (12 : Int32))) ↔ i ≤ 12 := nI_leI (b := 12) h (by decide)
theorem ri_lt12 {i : Nat} (h : i < 2 ^ 31) : (((12 : Int32) < nI i)) ↔ 12 < i := nI_ltI (a := 12) (by decide) h
theorem ri_gt12 {i : Nat} (h : i < 2 ^ 31) : ((nI i < (12 : Int32))) ↔ i < 12 := nI_ltI (b := 12) h (by decide)
theorem ri_eq12 {i : Nat} (h : i < 2 ^ 31) : ((nI i = (12 : Int32))) ↔ i = 12 := nI_eq (b := 12) h (by decide)
theorem ri_le16 {i : Nat} (h : i < 2 ^ 31) : (((16 : Int32) ≤ nI i)) ↔ 16 ≤ i := nI_leI (a := 16) (by decide) h
theorem ri_ge16 {i : Nat} (h : i < 2 ^ 31) : ((nI i ≤ (16 : Int32))) ↔ i ≤ 16 := nI_leI (b := 16) h (by decide)
theorem ri_lt16 {i : Nat} (h : i < 2 ^ 31) : (((16 : Int32) < nI i)) ↔ 16 < i := nI_ltI (a := 16) (by decide) h
theorem ri_gt16 {i : Nat} (h : i < 2 ^ 31) : ((nI i < (16 : Int32))) ↔ i < 16 := nI_ltI (b := 16) h (by decide)
theorem ri_eq16 {i : Nat} (h : i < 2 ^ 31) : ((nI i = (16 : Int32))) ↔ i = 16 := nI_eq (b := 16) h (by decide)
theorem ri_le20 {i : Nat} (h : i < 2 ^ 31) : (((20 : Int32) ≤ nI i)) ↔ 20 ≤ i := nI_leI (a := 20) (by decide) h
theorem ri_ge20 {i : Nat} (h : i < 2 ^ 31) : ((nI i ≤ (20 : Int32))) ↔ i ≤ 20 := nI_leI (b := 20) h (by decide)
theorem ri_lt20 {i : Nat} (h : i < 2 ^ 31) : (((20 : Int32) < nI i)) ↔ 20 < i := nI_ltI (a := 20) (by decide) h
theorem ri_gt20 {i : Nat} (h : i < 2 ^ 31) : ((nI i < (20 : Int32))) ↔ i < 20 := nI_ltI (b := 20) h (by decide)
theorem ri_eq20 {i : Nat} (h : i < 2 ^ 31) : ((nI i = (20 : Int32))) ↔ i = 20 := nI_eq (b := 20) h (by decide)
theorem ri_le32 {i : Nat} (h : i < 2 ^ 31) : (((32 : Int32) ≤ nI i)) ↔ 32 ≤ i := nI_leI (a := 32) (by decide) h
theorem ri_ge32 {i : Nat} (h : i < 2 ^ 31) : ((nI i ≤ (32 : Int32))) ↔ i ≤ 32 := nI_leI (b := 32) h (by decide)
theorem ri_lt32 {i : Nat} (h : i < 2 ^ 31) : (((32 : Int32) < nI i)) ↔ 32 < i := nI_ltI (a := 32) (by decide) h
theorem ri_gt32 {i : Nat} (h : i < 2 ^ 31) : ((nI i < (32 : Int32))) ↔ i < 32 := nI_ltI (b := 32) h (by decide)
theorem ri_eq32 {i : Nat} (h : i < 2 ^ 31) : ((nI i = (32 : Int32))) ↔ i = 32 := nI_eq (b := 32) h (by decide)
theorem ri_le80 {i : Nat} (h : i < 2 ^ 31) : (((80 : Int32) ≤ nI i)) ↔ 80 ≤ i := nI_leI (a := 80) (by decide) h
theorem ri_ge80 {i : Nat} (h : i < 2 ^ 31) : ((nI i ≤ (80 : Int32))) ↔ i ≤ 80 := nI_leI (b := 80) h (by decide)
theorem ri_lt80 {i : Nat} (h : i < 2 ^ 31) : (((80 : Int32) < nI i)) ↔ 80 < i := nI_ltI (a := 80) (by decide) h
theorem ri_gt80 {i : Nat} (h : i < 2 ^ 31) : ((nI i < (80 : Int32))) ↔ i < 80 := nI_ltI (b := 80) h (by decide)
theorem ri_eq80 {i : Nat} (h : i < 2 ^ 31) : ((nI i = (80 : Int32))) ↔ i = 80 := nI_eq (b := 80) h (by decide)
theorem ri_in {n N : Nat} (h : n < 2 ^ 31) (hN : N < 2 ^ 31) : vp_in (nI n) N ↔ n < N := by
  rw [vp_in_iff, nI_toInt h]; omega
theorem ri_B0 {b : Bool} : (ri_B b = 0) ↔ b = false := by cases b <;> decide
theorem ri_B1 {b : Bool} : (ri_B b = 1) ↔ b = true := by cases b <;> decide
theorem ri_BB {a b : Bool} : (ri_B a = ri_B b) ↔ a = b := by cases a <;> cases b <;> decide
theorem ri_m2 {v : Nat} (h : v < 2 ^ 31) : ¬ nI v = (-2 : Int32) := by
  intro z
  have := congrArg Int32.toInt z
  rw [nI_toInt h, show (-2 : Int32).toInt = -2 from by decide] at this
  omega
theorem ri_m1 {v : Nat} (h : v < 2 ^ 31) : ¬ nI v = (-1 : Int32) := by
  intro z
  have := congrArg Int32.toInt z
  rw [nI_toInt h, show (-1 : Int32).toInt = -1 from by decide] at this
  omega
theorem ri_nm2 {v : Nat} (h : v < 2 ^ 31) : (nI v = (-2 : Int32)) ↔ False := ⟨ri_m2 h, False.elim⟩
theorem ri_nm1 {v : Nat} (h : v < 2 ^ 31) : (nI v = (-1 : Int32)) ↔ False := ⟨ri_m1 h, False.elim⟩
theorem ri_cx_z {v : Nat} (h : v < 2 ^ 31) : (ri_cx v = (-2 : Int32)) ↔ v = 0 := by
  by_cases e : v = 0
  · subst e; exact ⟨fun _ => rfl, fun _ => rfl⟩
  · rw [ri_cx_p e]; exact ⟨fun z => absurd z (ri_m2 (by omega)), fun z => absurd z e⟩
theorem ri_cx_n {v : Nat} (h : v < 2 ^ 31) : (ri_cx v < 0) ↔ v = 0 := by
  by_cases e : v = 0
  · subst e; exact ⟨fun _ => rfl, fun _ => by decide⟩
  · rw [ri_cx_p e]; exact ⟨fun z => absurd z (nI_pos (by omega)), fun z => absurd z e⟩
theorem ri_cy_n {v : Nat} (h : v < 2 ^ 31) : (ri_cy v < 0) ↔ v = 0 := by
  by_cases e : v = 0
  · subst e; exact ⟨fun _ => rfl, fun _ => by decide⟩
  · rw [ri_cy_p e]; exact ⟨fun z => absurd z (nI_pos (by omega)), fun z => absurd z e⟩
theorem ri_cy_g {v : Nat} (h : v < 2 ^ 31) : (0 ≤ ri_cy v) ↔ ¬ v = 0 := by
  by_cases e : v = 0
  · subst e; exact ⟨fun z => absurd z (by decide), fun z => absurd rfl z⟩
  · rw [ri_cy_p e]; exact ⟨fun _ => e, fun _ => nI_pos' (by omega)⟩
theorem ri_cx_e {v m : Nat} (h : v < 2 ^ 31) (hm : m < 2 ^ 31) : (ri_cx v = nI m) ↔ v = m + 1 := by
  by_cases e : v = 0
  · subst e; exact ⟨fun z => absurd z.symm (ri_m2 hm), fun z => absurd z (by omega)⟩
  · rw [ri_cx_p e, nI_eq (by omega) hm]; omega
theorem ri_cy_e {v m : Nat} (h : v < 2 ^ 31) (hm : m < 2 ^ 31) : (ri_cy v = nI m) ↔ v = m + 1 := by
  by_cases e : v = 0
  · subst e; exact ⟨fun z => absurd z.symm (ri_m1 hm), fun z => absurd z (by omega)⟩
  · rw [ri_cy_p e, nI_eq (by omega) hm]; omega
theorem ri_cy_ee {v m : Nat} (h : v < 2 ^ 31) (hm : m < 2 ^ 31) : (ri_cy v = ri_cy m) ↔ v = m := by
  by_cases e : m = 0
  · subst e
    by_cases e2 : v = 0
    · subst e2; exact ⟨fun _ => rfl, fun _ => rfl⟩
    · rw [ri_cy_p e2]; exact ⟨fun z => absurd z (ri_m1 (by omega)), fun z => absurd z e2⟩
  · rw [ri_cy_p e, ri_cy_e h (by omega)]; omega
theorem ri_mul5 (a : Nat) : nI a * 5 = nI (5 * a) := by rw [Nat.mul_comm]; exact pk_mul a 5
theorem ri_mul5' (a : Nat) : 5 * nI a = nI (5 * a) := pk_mul 5 a
theorem ri_mul2 (a : Nat) : nI a * 2 = nI (2 * a) := by rw [Nat.mul_comm]; exact pk_mul a 2
theorem ri_mul2' (a : Nat) : 2 * nI a = nI (2 * a) := pk_mul 2 a
theorem ri_add5 (a : Nat) : nI a + 5 = nI (a + 5) := nI_add a 5
theorem ri_div2 {a : Nat} (h : a < 2 ^ 31) : nI a / 2 = nI (a / 2) := pk_div (d := 2) h (by decide) (by decide)
theorem ri_rem2 {a : Nat} (h : a < 2 ^ 31) : nI a - nI a / 2 * 2 = nI (a % 2) := pk_rem (d := 2) h (by decide) (by decide)
theorem ri_sub1 {a : Nat} (h : 1 ≤ a) : nI a - 1 = nI (a - 1) := pk_sub (b := 1) h
theorem ri_four {a : Nat} (h : a ≤ 4) : (4 : Int32) - nI a = nI (4 - a) := pk_sub (a := 4) h
theorem ri_two : ((2 : Int32) = 0) ↔ False := by decide
theorem ri_01 : ((0 : Int32) = 1) ↔ False := by decide
theorem ri_10 : ((1 : Int32) = 0) ↔ False := by decide
def ri_op (e : Nat) : Nat := if e % 2 = 0 then e + 1 else e - 1
theorem ri_op_x : ∀ e, e < 20 → nI e ^^^ 1 = nI (ri_op e) := by decide +kernel
theorem ri_op_lt {e : Nat} (h : e < 20) : ri_op e < 20 := by unfold ri_op; split <;> omega
theorem ri_op_d (e : Nat) : ri_op e / 2 = e / 2 := by unfold ri_op; split <;> omega
theorem ri_s31 : ∀ s, s < 32 → ((nI s &&& 31).toBitVec.smod 32).toNat = s := by decide +kernel
theorem ri_shr {n s : Nat} (hn : n < 2 ^ 31) (hs : s < 32) : nI n >>> (nI s &&& 31) = nI (n / 2 ^ s) := pk_shrN hn _ s (ri_s31 s hs)
theorem ri_shl {n s : Nat} (hs : s < 32) (h : n * 2 ^ s < 2 ^ 32) : nI n <<< (nI s &&& 31) = nI (n * 2 ^ s) := pk_shlN _ s (ri_s31 s hs) h
theorem ri_sh1 {s : Nat} (hs : s < 31) : (1 : Int32) <<< (nI s &&& 31) = nI (2 ^ s) := by
  have h : 2 ^ s < 2 ^ 32 := Nat.pow_lt_pow_right (by decide) (by omega)
  have := ri_shl (n := 1) (s := s) (by omega) (by omega)
  rw [Nat.one_mul] at this
  exact this
theorem ri_a1 {n : Nat} (h : n < 2 ^ 31) : nI n &&& 1 = nI (n % 2) := pk_andN (by omega) 1 (by decide)
theorem ri_a3 {n : Nat} (h : n < 2 ^ 31) : nI n &&& 3 = nI (n % 4) := pk_andN (by omega) 2 (by decide)
theorem ri_and (a b : Nat) : nI a &&& nI b = nI (a &&& b) := nx_and a b
theorem ri_or {a b : Nat} (ha : a < 2 ^ 31) (hb : b < 2 ^ 31) : nI a ||| nI b = nI (a ||| b) := by
  apply Int32.toBitVec_inj.mp
  apply BitVec.eq_of_toNat_eq
  have hc : a ||| b < 2 ^ 31 := Nat.or_lt_two_pow ha hb
  rw [Int32.toBitVec_or, BitVec.toNat_or, pk_tn (by omega), pk_tn (by omega), pk_tn (by omega)]
/-! bounded searches -/
def ri_ba (f : Nat → Bool) : Nat → Bool
  | 0 => false
  | n + 1 => ri_ba f n || f n
theorem ri_ba_t {f : Nat → Bool} {n : Nat} : ri_ba f n = true ↔ ∃ i, i < n ∧ f i = true := by
  induction n with
  | zero => exact ⟨fun z => absurd z (by simp [ri_ba]), fun ⟨i, h, _⟩ => absurd h (by omega)⟩
  | succ n ih =>
    simp only [ri_ba, Bool.or_eq_true, ih]
    constructor
    · rintro (⟨i, h, e⟩ | e)
      · exact ⟨i, by omega, e⟩
      · exact ⟨n, by omega, e⟩
    · rintro ⟨i, h, e⟩
      by_cases z : i = n
      · subst z; exact Or.inr e
      · exact Or.inl ⟨i, by omega, e⟩
theorem ri_ba_f {f : Nat → Bool} {n : Nat} : ri_ba f n = false ↔ ∀ i, i < n → f i = false := by
  constructor
  · intro h i hi
    cases e : f i with
    | false => rfl
    | true => rw [ri_ba_t.mpr ⟨i, hi, e⟩] at h; exact absurd h (by decide)
  · intro h
    cases e : ri_ba f n with
    | false => rfl
    | true =>
      obtain ⟨i, hi, z⟩ := ri_ba_t.mp e
      rw [h i hi] at z; exact absurd z (by decide)
theorem ri_ba_c {f g : Nat → Bool} {n : Nat} (h : ∀ i, i < n → f i = g i) : ri_ba f n = ri_ba g n := by
  induction n with
  | zero => rfl
  | succ n ih => simp only [ri_ba]; rw [ih (fun i hi => h i (by omega)), h n (by omega)]
theorem ri_beq {a b : Bool} (h : a = true ↔ b = true) : a = b := by
  cases a <;> cases b <;> simp_all
theorem ri_fo (W : Nat → Nat → Prop) (n : Nat) (he : ∀ k, W (k + 1) n) (hs : ∀ k i, i < n → W k (i + 1) → W (k + 1) i) : ∃ k, W k 0 := by
  have key : ∀ d i, i + d = n → W (d + 1) i := by
    intro d
    induction d with
    | zero => intro i hi; have e : i = n := by omega
              subst e; exact he 0
    | succ d ih => intro i hi; exact hs _ i (by omega) (ih (i + 1) (by omega))
  exact ⟨n + 1, key n 0 (by omega)⟩
theorem ri_sc (W : Nat → Nat → Prop) (P0 P1 : Prop) (f : Nat → Bool) (n : Nat) (he : ∀ k, P0 → W (k + 1) n) (hh : ∀ k i, i < n → f i = true → P1 → W (k + 1) i) (hs : ∀ k i, i < n → f i = false → W k (i + 1) → W (k + 1) i) (h0 : ri_ba f n = false → P0) (h1 : ri_ba f n = true → P1) : ∃ k, W k 0 := by
  have key : ∀ d i, i + d = n → (∀ j, j < i → f j = false) → W (d + 1) i := by
    intro d
    induction d with
    | zero => intro i hi hj; have e : i = n := by omega
              subst e; exact he 0 (h0 (ri_ba_f.mpr hj))
    | succ d ih =>
      intro i hi hj
      cases e : f i with
      | true => exact hh _ i (by omega) e (h1 (ri_ba_t.mpr ⟨i, by omega, e⟩))
      | false =>
        refine hs _ i (by omega) e (ih (i + 1) (by omega) ?_)
        intro j hj2
        by_cases z : j = i
        · subst z; exact e
        · exact hj j (by omega)
  exact ⟨n + 1, key n 0 (by omega) (fun j hj => absurd hj (by omega))⟩
theorem ri_scB (W : Nat → Nat → Prop) (post : Int32 → Prop) (f : Nat → Bool) (n : Nat) (h : post (ri_B (ri_ba f n))) (he : ∀ k, post 0 → W (k + 1) n) (hh : ∀ k i, i < n → f i = true → post 1 → W (k + 1) i) (hs : ∀ k i, i < n → f i = false → W k (i + 1) → W (k + 1) i) : ∃ k, W k 0 :=
  ri_sc W (post 0) (post 1) f n he hh hs (fun e => by rw [e] at h; exact h) (fun e => by rw [e] at h; exact h)
/-! the first that is so, coded: 0 none, m + 1 -/
def ri_ff (f : Nat → Bool) : Nat → Nat
  | 0 => 0
  | n + 1 => if ri_ff f n = 0 then (if f n = true then n + 1 else 0) else ri_ff f n
theorem ri_ff_0 {f : Nat → Bool} {n : Nat} (h : ∀ i, i < n → f i = false) : ri_ff f n = 0 := by
  induction n with
  | zero => rfl
  | succ n ih => simp only [ri_ff]; rw [ih (fun i hi => h i (by omega)), h n (by omega)]; rfl
theorem ri_ff_s {f : Nat → Bool} {m : Nat} (hm : f m = true) (h : ∀ i, i < m → f i = false) : ∀ n, m < n → ri_ff f n = m + 1 := by
  intro n
  induction n with
  | zero => intro z; omega
  | succ n ih =>
    intro z
    simp only [ri_ff]
    by_cases e : m = n
    · subst e; rw [ri_ff_0 h, hm]; rfl
    · rw [ih (by omega)]; rfl
theorem ri_ff_i {f : Nat → Bool} : ∀ n, ri_ff f n ≠ 0 → ri_ff f n - 1 < n ∧ f (ri_ff f n - 1) = true := by
  intro n
  induction n with
  | zero => intro h; exact absurd rfl h
  | succ n ih =>
    intro h
    simp only [ri_ff] at h ⊢
    by_cases e : ri_ff f n = 0
    · rw [if_pos e] at h ⊢
      by_cases e2 : f n = true
      · rw [if_pos e2]; exact ⟨by omega, e2⟩
      · rw [if_neg e2] at h; exact absurd rfl h
    · rw [if_neg e] at h ⊢
      exact ⟨by have := (ih e).1; omega, (ih e).2⟩
theorem ri_ff_c {f g : Nat → Bool} {n : Nat} (h : ∀ i, i < n → f i = g i) : ri_ff f n = ri_ff g n := by
  induction n with
  | zero => rfl
  | succ n ih => simp only [ri_ff]; rw [ih (fun i hi => h i (by omega)), h n (by omega)]
theorem ri_sf (W : Nat → Nat → Prop) (P : Nat → Prop) (f : Nat → Bool) (n : Nat) (h : P (ri_ff f n)) (he : ∀ k, P 0 → W (k + 1) n) (hh : ∀ k i, i < n → f i = true → P (i + 1) → W (k + 1) i) (hs : ∀ k i, i < n → f i = false → W k (i + 1) → W (k + 1) i) : ∃ k, W k 0 := by
  have key : ∀ d i, i + d = n → (∀ j, j < i → f j = false) → W (d + 1) i := by
    intro d
    induction d with
    | zero => intro i hi hj; have e : i = n := by omega
              subst e; refine he 0 ?_; rw [ri_ff_0 hj] at h; exact h
    | succ d ih =>
      intro i hi hj
      cases e : f i with
      | true => refine hh _ i (by omega) e ?_; rw [ri_ff_s e hj n (by omega)] at h; exact h
      | false =>
        refine hs _ i (by omega) e (ih (i + 1) (by omega) ?_)
        intro j hj2
        by_cases z : j = i
        · subst z; exact e
        · exact hj j (by omega)
  exact ⟨n + 1, key n 0 (by omega) (fun j hj => absurd hj (by omega))⟩
/-! counts -/
def ri_cn (f : Nat → Bool) : Nat → Nat
  | 0 => 0
  | n + 1 => ri_cn f n + (if f n = true then 1 else 0)
theorem ri_cn_c {f g : Nat → Bool} {n : Nat} (h : ∀ i, i < n → f i = g i) : ri_cn f n = ri_cn g n := by
  induction n with
  | zero => rfl
  | succ n ih => simp only [ri_cn]; rw [ih (fun i hi => h i (by omega)), h n (by omega)]
theorem ri_cn_m {f : Nat → Bool} {a : Nat} : ∀ b, a ≤ b → ri_cn f a ≤ ri_cn f b := by
  intro b
  induction b with
  | zero => intro h; have e : a = 0 := by omega
            subst e; exact Nat.le_refl _
  | succ b ih =>
    intro h
    by_cases e : a = b + 1
    · subst e; exact Nat.le_refl _
    · have := ih (by omega); simp only [ri_cn]; omega
theorem ri_cn_l {f : Nat → Bool} {a b : Nat} (h : a < b) (hf : f a = true) : ri_cn f a < ri_cn f b := by
  have := ri_cn_m (f := f) (a := a + 1) b (by omega)
  simp only [ri_cn, hf, if_true] at this
  omega
theorem ri_cn_n (f : Nat → Bool) : ∀ n, ri_cn f n ≤ n := by
  intro n
  induction n with
  | zero => exact Nat.le_refl _
  | succ n ih => simp only [ri_cn]; split <;> omega
theorem ri_cn_x {f : Nat → Bool} {k : Nat} : ∀ n, k < ri_cn f n → ∃ i, i < n ∧ f i = true ∧ ri_cn f i = k := by
  intro n
  induction n with
  | zero => intro h; exact absurd h (by simp [ri_cn])
  | succ n ih =>
    intro h
    by_cases e : k < ri_cn f n
    · obtain ⟨i, h1, h2⟩ := ih e; exact ⟨i, by omega, h2⟩
    · simp only [ri_cn] at h
      by_cases z : f n = true
      · rw [if_pos z] at h; exact ⟨n, by omega, z, by omega⟩
      · rw [if_neg z] at h; omega
