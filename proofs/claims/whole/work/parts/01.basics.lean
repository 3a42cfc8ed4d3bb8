theorem pk_us {f : Nat → Int32} {k : Nat} {x : Int32} : upd f k x k = x := if_pos rfl
theorem pk_un {f : Nat → Int32} {k j : Nat} {x : Int32} (h : j ≠ k) : upd f k x j = f j := if_neg h
theorem pk_sub {a b : Nat} (h : b ≤ a) : nI a - nI b = nI (a - b) := by
  obtain ⟨c, rfl⟩ : ∃ c, a = c + b := ⟨a - b, by omega⟩
  rw [← nI_add, Int32.add_sub_cancel, Nat.add_sub_cancel]
theorem pk_m1 (n : Nat) : nI (n + 1) + (-1) = nI n := by
  rw [← nI_1, Int32.add_assoc, show (1 : Int32) + (-1) = 0 from rfl, Int32.add_zero]
theorem pk_mul (a b : Nat) : nI a * nI b = nI (a * b) := (Int32.ofNat_mul a b).symm
theorem pk_div {a d : Nat} (ha : a < 2 ^ 31) (h0 : 0 < d) (hd : d < 2 ^ 31) : nI a / nI d = nI (a / d) := by
  apply Int32.toInt_inj.mp
  rw [lg_idiv_nonneg (by rw [nI_toInt ha]; omega) (by rw [nI_toInt hd]; omega), nI_toInt ha, nI_toInt hd, nI_toInt (Nat.lt_of_le_of_lt (Nat.div_le_self a d) ha)]
  first | rfl | exact (Int.natCast_ediv _ _).symm
theorem pk_rem {a d : Nat} (ha : a < 2 ^ 31) (h0 : 0 < d) (hd : d < 2 ^ 31) : nI a - nI a / nI d * nI d = nI (a % d) := by
  rw [pk_div ha h0 hd, pk_mul, pk_sub (Nat.div_mul_le_self a d)]
  exact congrArg nI (by have := Nat.div_add_mod' a d; omega)
theorem pk_le {x y : Int32} {A B : Prop} (a b : Nat) (f : a ≤ b → A) (g : b < a → B) (hx : x = nI a := by rfl) (hy : y = nI b := by rfl) (ha : a < 2 ^ 31 := by omega) (hb : b < 2 ^ 31 := by omega) : (x ≤ y → A) ∧ (¬ x ≤ y → B) := by
  subst hx hy
  rw [nI_leI ha hb]
  exact ⟨f, fun z => g (by omega)⟩
theorem pk_lt {x y : Int32} {A B : Prop} (a b : Nat) (f : a < b → A) (g : b ≤ a → B) (hx : x = nI a := by rfl) (hy : y = nI b := by rfl) (ha : a < 2 ^ 31 := by omega) (hb : b < 2 ^ 31 := by omega) : (x < y → A) ∧ (¬ x < y → B) := by
  subst hx hy
  rw [nI_ltI ha hb]
  exact ⟨f, fun z => g (by omega)⟩
theorem pk_eq {x y : Int32} {A B : Prop} (a b : Nat) (f : a = b → A) (g : a ≠ b → B) (hx : x = nI a := by rfl) (hy : y = nI b := by rfl) (ha : a < 2 ^ 31 := by omega) (hb : b < 2 ^ 31 := by omega) : (x = y → A) ∧ (¬ x = y → B) := by
  subst hx hy
  rw [nI_eq ha hb]
  exact ⟨f, g⟩
theorem pk_in {x : Int32} (n N : Nat) (h : n < N) (hx : x = nI n := by rfl) (hN : N < 2 ^ 31 := by omega) : vp_in x N := by
  subst hx
  exact vp_in_nI h hN
theorem pk_cl {x : Int32} (n : Nat) (hx : x = nI n := by rfl) (h : n < 2 ^ 31 := by omega) : x.toNatClampNeg = n := by
  subst hx
  exact nI_clamp h
theorem pk_tn {n : Nat} (h : n < 2 ^ 32) : (nI n).toBitVec.toNat = n := Nat.mod_eq_of_lt h
theorem pk_and (x : Int32) {m : Int32} (k : Nat) (hm : m.toBitVec.toNat = 2 ^ k - 1) : x &&& m = nI (x.toBitVec.toNat % 2 ^ k) := by
  apply Int32.toBitVec_inj.mp
  apply BitVec.eq_of_toNat_eq
  rw [Int32.toBitVec_and, BitVec.toNat_and, hm, Nat.and_two_pow_sub_one_eq_mod]
  show _ = (BitVec.ofNat 32 _).toNat
  rw [BitVec.toNat_ofNat]
  exact (Nat.mod_eq_of_lt (Nat.lt_of_le_of_lt (Nat.mod_le _ _) x.toBitVec.isLt)).symm
theorem pk_andN {n : Nat} (h : n < 2 ^ 32) {m : Int32} (k : Nat) (hm : m.toBitVec.toNat = 2 ^ k - 1) : nI n &&& m = nI (n % 2 ^ k) := by
  rw [pk_and _ k hm, pk_tn h]
theorem pk_shr (a s : Int32) (k : Nat) (hs : (s.toBitVec.smod 32).toNat = k) : (a >>> s).toInt = a.toInt >>> k := by
  show (a.toBitVec.sshiftRight (s.toBitVec.smod 32).toNat).toInt = _
  rw [hs, BitVec.toInt_sshiftRight]
  rfl
theorem pk_shrN {n : Nat} (h : n < 2 ^ 31) (s : Int32) (k : Nat) (hs : (s.toBitVec.smod 32).toNat = k) : nI n >>> s = nI (n / 2 ^ k) := by
  apply Int32.toInt_inj.mp
  have h2 : n / 2 ^ k ≤ n := Nat.div_le_self _ _
  rw [pk_shr _ _ k hs, nI_toInt h, nI_toInt (by omega), Int.shiftRight_eq_div_pow]
  rfl
theorem qb_i8 {n : Nat} (h : n < 128) : (nI n).toInt8.toInt32 = nI n := lg_i2b_small (by rw [nI_toInt (by omega)]; omega) (by rw [nI_toInt (by omega)]; omega)
theorem qb_i16 {n : Nat} (h : n < 32768) : (nI n).toInt16.toInt32 = nI n := lg_i2s_small (by rw [nI_toInt (by omega)]; omega) (by rw [nI_toInt (by omega)]; omega)
theorem qb_nb {n : Nat} (h : n < 128) : vp_nar .byte (nI n) = nI n := by rw [vp_nar_byte, qb_i8 h]
theorem qb_ns {n : Nat} (h : n < 32768) : vp_nar .short (nI n) = nI n := by rw [vp_nar_short, qb_i16 h]
theorem qb_nb8 {n : Nat} (h : n < 128) : vp_nar .byte (nI n).toInt8.toInt32 = nI n := by rw [qb_i8 h, qb_nb h]
theorem qb_ns16 {n : Nat} (h : n < 32768) : vp_nar .short (nI n).toInt16.toInt32 = nI n := by rw [qb_i16 h, qb_ns h]
theorem qb_m1b : vp_nar .byte (-1 : Int32).toInt8.toInt32 = -1 := by rw [vp_nar_byte]; decide
theorem qb_m1b' : vp_nar .byte (-1 : Int32) = -1 := by rw [vp_nar_byte]; decide
theorem qb_m1s : vp_nar .short (-1 : Int32) = -1 := by rw [vp_nar_short]; decide
theorem qb_b1 : vp_nar .boolean 1 = 1 := rfl
theorem qb_b0 : vp_nar .boolean 0 = 0 := rfl
theorem qb_nr1 : narrow .boolean (.int 1) = .int 1 := rfl
theorem qb_nr0 : narrow .boolean (.int 0) = .int 0 := rfl
theorem qb_ne_m1 {n : Nat} (h : n < 2 ^ 31) : ¬ nI n = -1 := by
  intro e
  have := congrArg Int32.toInt e
  rw [nI_toInt h, show (-1 : Int32).toInt = -1 from by decide] at this
  omega
theorem qb_m1lt : (-1 : Int32) < 0 := by decide
/-- a function's number, or none -/
theorem qb_fun (x : Int32) {n : Nat} (hn : n < 2 ^ 31) : x < 0 ∨ (¬ x < 0 ∧ nI n ≤ x) ∨ ∃ j : Nat, j < n ∧ x = nI j := by
  by_cases h : x < 0
  · exact Or.inl h
  · obtain ⟨j, hj, rfl⟩ := nI_of h
    by_cases h2 : j < n
    · exact Or.inr (Or.inr ⟨j, h2, rfl⟩)
    · exact Or.inr (Or.inl ⟨h, nI_le (by omega) hj⟩)
/-- upd at a natural place -/
theorem qb_upd {f : Nat → Int32} {k j : Nat} {x : Int32} : upd f k x j = if j = k then x else f j := rfl
/-- what is asked at e' is asked at e -/
theorem qb_at {α : Sort _} {P : α → Prop} {a b : α} (e : a = b) (h : P b) : P a := e ▸ h
/-- the tokens: kinds 0..8 and 10..21, the value within its bounds -/
def tk_ok (k v : Int32) : Prop := ∃ n : Nat, k = nI n ∧ n < 22 ∧ n ≠ 9 ∧ ((n = 1 ∨ n = 10) → ∃ m : Nat, m < 6 ∧ v = nI m)
  ∧ ((n = 8 ∨ n = 13 ∨ n = 16 ∨ n = 19 ∨ n = 20) → ∃ m : Nat, m < 4 ∧ v = nI m)
  ∧ (n = 17 → v = 1 ∨ v = 2 ∨ v = 4 ∨ v = 5 ∨ v = 6)
  ∧ (n = 18 → ∃ m : Nat, m < 48 ∧ v = nI m ∧ m % 8 < 5)
/-- the catches of a TRY, its finally part -/
def tk_cn (v : Int32) : Nat := if v = 1 ∨ v = 5 then 1 else if v = 2 ∨ v = 6 then 2 else 0
def tk_fn (v : Int32) : Nat := if v = 1 ∨ v = 2 then 0 else 1
/-- how many parts a token has -/
def tk_np (k v : Int32) : Nat :=
  if k = 17 then 1 + tk_cn v + tk_fn v else if k = 12 then 3
  else if k = 2 ∨ k = 3 ∨ k = 4 ∨ k = 5 ∨ k = 6 ∨ k = 13 ∨ k = 14 then 2
  else if k = 7 ∨ k = 8 ∨ k = 10 ∨ k = 11 ∨ k = 16 ∨ k = 18 ∨ k = 21 then 1 else 0
/-- the sort of a token: 0 an expression, 1 a statement, 2 a catch -/
def tk_so (k : Int32) : Nat := if k < 9 then 0 else if k = 18 then 2 else 1
/-- the sort that part o must have -/
def tk_wt (k v : Int32) (o : Nat) : Nat :=
  if k = 17 then (if 0 < o ∧ o ≤ tk_cn v then 2 else 1)
  else if k = 12 ∨ k = 13 then (if 0 < o then 1 else 0)
  else if k = 14 ∨ k = 18 then 1 else 0
theorem tk_np_le {k v : Int32} (h : tk_ok k v) : tk_np k v ≤ 4 := by
  unfold tk_np tk_cn tk_fn
  repeat' split
  all_goals omega
/-- the 21 kinds -/
theorem tk_kinds {k v : Int32} (h : tk_ok k v) : k = 0 ∨ k = 1 ∨ k = 2 ∨ k = 3 ∨ k = 4 ∨ k = 5 ∨ k = 6 ∨ k = 7 ∨ k = 8 ∨ k = 10 ∨ k = 11 ∨ k = 12 ∨ k = 13 ∨ k = 14 ∨ k = 15 ∨ k = 16 ∨ k = 17 ∨ k = 18 ∨ k = 19 ∨ k = 20 ∨ k = 21 := by
  obtain ⟨n, rfl, h22, h9, -⟩ := h
  have : n = 0 ∨ n = 1 ∨ n = 2 ∨ n = 3 ∨ n = 4 ∨ n = 5 ∨ n = 6 ∨ n = 7 ∨ n = 8 ∨ n = 10 ∨ n = 11 ∨ n = 12 ∨ n = 13 ∨ n = 14 ∨ n = 15 ∨ n = 16 ∨ n = 17 ∨ n = 18 ∨ n = 19 ∨ n = 20 ∨ n = 21 := by omega
  rcases this with rfl | rfl | rfl | rfl | rfl | rfl | rfl | rfl | rfl | rfl | rfl | rfl | rfl | rfl | rfl | rfl | rfl | rfl | rfl | rfl | rfl <;> repeat (first | exact Or.inl rfl | exact rfl | apply Or.inr)
theorem tk_var {k v : Int32} (h : tk_ok k v) (hk : k = 1 ∨ k = 10) : ∃ m : Nat, m < 6 ∧ v = nI m := by
  obtain ⟨n, rfl, h22, h9, a, _⟩ := h
  exact a (by rcases hk with e | e; exact Or.inl ((nI_eq (b := 1) (by omega) (by omega)).mp e); exact Or.inr ((nI_eq (b := 10) (by omega) (by omega)).mp e))
theorem tk_fou {k v : Int32} (h : tk_ok k v) (hk : k = 8 ∨ k = 13 ∨ k = 16 ∨ k = 19 ∨ k = 20) : ∃ m : Nat, m < 4 ∧ v = nI m := by
  obtain ⟨n, rfl, h22, h9, _, a, _⟩ := h
  refine a ?_
  rcases hk with e | e | e | e | e
  · exact Or.inl ((nI_eq (b := 8) (by omega) (by omega)).mp e)
  · exact Or.inr (Or.inl ((nI_eq (b := 13) (by omega) (by omega)).mp e))
  · exact Or.inr (Or.inr (Or.inl ((nI_eq (b := 16) (by omega) (by omega)).mp e)))
  · exact Or.inr (Or.inr (Or.inr (Or.inl ((nI_eq (b := 19) (by omega) (by omega)).mp e))))
  · exact Or.inr (Or.inr (Or.inr (Or.inr ((nI_eq (b := 20) (by omega) (by omega)).mp e))))
theorem tk_try {v : Int32} (h : tk_ok 17 v) : v = 1 ∨ v = 2 ∨ v = 4 ∨ v = 5 ∨ v = 6 := by
  obtain ⟨n, e, h22, h9, _, _, a, _⟩ := h
  exact a ((nI_eq (b := 17) (by omega) (by omega)).mp e.symm)
theorem tk_cat {v : Int32} (h : tk_ok 18 v) : ∃ m : Nat, m < 48 ∧ v = nI m ∧ m % 8 < 5 := by
  obtain ⟨n, e, h22, h9, _, _, _, a⟩ := h
  exact a ((nI_eq (b := 18) (by omega) (by omega)).mp e.symm)
