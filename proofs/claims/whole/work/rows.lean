section
theorem pk_us {f : Nat → Int32} {k : Nat} {x : Int32} : upd f k x k = x := if_pos rfl
theorem pk_un {f : Nat → Int32} {k j : Nat} {x : Int32} (h : j ≠ k) : upd f k x j = f j := if_neg h
theorem pk_sub {a b : Nat} (h : b ≤ a) : nI a - nI b = nI (a - b) := by
  obtain ⟨c, rfl⟩ : ∃ c, a = c + b := ⟨a - b, by omega⟩
  rw [← nI_add, Int32.add_sub_cancel, Nat.add_sub_cancel]
theorem pk_m1 (n : Nat) : nI (n + 1) + (-1) = nI n := by
  rw [← nI_1, Int32.add_assoc, show (1 : Int32) + (-1) = 0 from rfl, Int32.add_zero]
theorem pk_mul (a b : Nat) : nI a * nI b = nI (a * b) := (Int32.ofNat_mul a b).symm
theorem pk_div {a d : Nat} (ha : a < 2 ^ 31) (h0 : 0 < d) (hd : d < 2 ^ 31) : nI a / nI d = nI (a / d) := by
  apply Int32.toInt_inj.mp
  rw [lg_idiv_nonneg (by rw [nI_toInt ha]; omega) (by rw [nI_toInt hd]; omega), nI_toInt ha, nI_toInt hd, nI_toInt (Nat.lt_of_le_of_lt (Nat.div_le_self a d) ha)]
  first | rfl | exact (Int.natCast_ediv _ _).symm
theorem pk_rem {a d : Nat} (ha : a < 2 ^ 31) (h0 : 0 < d) (hd : d < 2 ^ 31) : nI a - nI a / nI d * nI d = nI (a % d) := by
  rw [pk_div ha h0 hd, pk_mul, pk_sub (Nat.div_mul_le_self a d)]
  exact congrArg nI (by have := Nat.div_add_mod' a d; omega)
theorem pk_le {x y : Int32} {A B : Prop} (a b : Nat) (f : a ≤ b → A) (g : b < a → B) (hx : x = nI a := by rfl) (hy : y = nI b := by rfl) (ha : a < 2 ^ 31 := by omega) (hb : b < 2 ^ 31 := by omega) : (x ≤ y → A) ∧ (¬ x ≤ y → B) := by
  subst hx hy
  rw [nI_leI ha hb]
  exact ⟨f, fun z => g (by omega)⟩
theorem pk_lt {x y : Int32} {A B : Prop} (a b : Nat) (f : a < b → A) (g : b ≤ a → B) (hx : x = nI a := by rfl) (hy : y = nI b := by rfl) (ha : a < 2 ^ 31 := by omega) (hb : b < 2 ^ 31 := by omega) : (x < y → A) ∧ (¬ x < y → B) := by
  subst hx hy
  rw [nI_ltI ha hb]
  exact ⟨f, fun z => g (by omega)⟩
theorem pk_eq {x y : Int32} {A B : Prop} (a b : Nat) (f : a = b → A) (g : a ≠ b → B) (hx : x = nI a := by rfl) (hy : y = nI b := by rfl) (ha : a < 2 ^ 31 := by omega) (hb : b < 2 ^ 31 := by omega) : (x = y → A) ∧ (¬ x = y → B) := by
  subst hx hy
  rw [nI_eq ha hb]
  exact ⟨f, g⟩
theorem pk_in {x : Int32} (n N : Nat) (h : n < N) (hx : x = nI n := by rfl) (hN : N < 2 ^ 31 := by omega) : vp_in x N := by
  subst hx
  exact vp_in_nI h hN
theorem pk_cl {x : Int32} (n : Nat) (hx : x = nI n := by rfl) (h : n < 2 ^ 31 := by omega) : x.toNatClampNeg = n := by
  subst hx
  exact nI_clamp h
theorem pk_tn {n : Nat} (h : n < 2 ^ 32) : (nI n).toBitVec.toNat = n := Nat.mod_eq_of_lt h
theorem pk_and (x : Int32) {m : Int32} (k : Nat) (hm : m.toBitVec.toNat = 2 ^ k - 1) : x &&& m = nI (x.toBitVec.toNat % 2 ^ k) := by
  apply Int32.toBitVec_inj.mp
  apply BitVec.eq_of_toNat_eq
  rw [Int32.toBitVec_and, BitVec.toNat_and, hm, Nat.and_two_pow_sub_one_eq_mod]
  show _ = (BitVec.ofNat 32 _).toNat
  rw [BitVec.toNat_ofNat]
  exact (Nat.mod_eq_of_lt (Nat.lt_of_le_of_lt (Nat.mod_le _ _) x.toBitVec.isLt)).symm
theorem pk_andN {n : Nat} (h : n < 2 ^ 32) {m : Int32} (k : Nat) (hm : m.toBitVec.toNat = 2 ^ k - 1) : nI n &&& m = nI (n % 2 ^ k) := by
  rw [pk_and _ k hm, pk_tn h]
theorem pk_shr (a s : Int32) (k : Nat) (hs : (s.toBitVec.smod 32).toNat = k) : (a >>> s).toInt = a.toInt >>> k := by
  show (a.toBitVec.sshiftRight (s.toBitVec.smod 32).toNat).toInt = _
  rw [hs, BitVec.toInt_sshiftRight]
  rfl
theorem pk_shrN {n : Nat} (h : n < 2 ^ 31) (s : Int32) (k : Nat) (hs : (s.toBitVec.smod 32).toNat = k) : nI n >>> s = nI (n / 2 ^ k) := by
  apply Int32.toInt_inj.mp
  have h2 : n / 2 ^ k ≤ n := Nat.div_le_self _ _
  rw [pk_shr _ _ k hs, nI_toInt h, nI_toInt (by omega), Int.shiftRight_eq_div_pow]
  rfl
theorem qb_i8 {n : Nat} (h : n < 128) : (nI n).toInt8.toInt32 = nI n := lg_i2b_small (by rw [nI_toInt (by omega)]; omega) (by rw [nI_toInt (by omega)]; omega)
theorem qb_i16 {n : Nat} (h : n < 32768) : (nI n).toInt16.toInt32 = nI n := lg_i2s_small (by rw [nI_toInt (by omega)]; omega) (by rw [nI_toInt (by omega)]; omega)
theorem qb_nb {n : Nat} (h : n < 128) : vp_nar .byte (nI n) = nI n := by rw [vp_nar_byte, qb_i8 h]
theorem qb_ns {n : Nat} (h : n < 32768) : vp_nar .short (nI n) = nI n := by rw [vp_nar_short, qb_i16 h]
theorem qb_nb8 {n : Nat} (h : n < 128) : vp_nar .byte (nI n).toInt8.toInt32 = nI n := by rw [qb_i8 h, qb_nb h]
theorem qb_ns16 {n : Nat} (h : n < 32768) : vp_nar .short (nI n).toInt16.toInt32 = nI n := by rw [qb_i16 h, qb_ns h]
theorem qb_m1b : vp_nar .byte (-1 : Int32).toInt8.toInt32 = -1 := by rw [vp_nar_byte]; decide
theorem qb_m1b' : vp_nar .byte (-1 : Int32) = -1 := by rw [vp_nar_byte]; decide
theorem qb_m1s : vp_nar .short (-1 : Int32) = -1 := by rw [vp_nar_short]; decide
theorem qb_b1 : vp_nar .boolean 1 = 1 := rfl
theorem qb_b0 : vp_nar .boolean 0 = 0 := rfl
theorem qb_nr1 : narrow .boolean (.int 1) = .int 1 := rfl
theorem qb_nr0 : narrow .boolean (.int 0) = .int 0 := rfl
theorem qb_ne_m1 {n : Nat} (h : n < 2 ^ 31) : ¬ nI n = -1 := by
  intro e
  have := congrArg Int32.toInt e
  rw [nI_toInt h, show (-1 : Int32).toInt = -1 from by decide] at this
  omega
theorem qb_m1lt : (-1 : Int32) < 0 := by decide
/-- a function's number, or none -/
theorem qb_fun (x : Int32) {n : Nat} (hn : n < 2 ^ 31) : x < 0 ∨ (¬ x < 0 ∧ nI n ≤ x) ∨ ∃ j : Nat, j < n ∧ x = nI j := by
  by_cases h : x < 0
  · exact Or.inl h
  · obtain ⟨j, hj, rfl⟩ := nI_of h
    by_cases h2 : j < n
    · exact Or.inr (Or.inr ⟨j, h2, rfl⟩)
    · exact Or.inr (Or.inl ⟨h, nI_le (by omega) hj⟩)
/-- upd at a natural place -/
theorem qb_upd {f : Nat → Int32} {k j : Nat} {x : Int32} : upd f k x j = if j = k then x else f j := rfl
/-- what is asked at e' is asked at e -/
theorem qb_at {α : Sort _} {P : α → Prop} {a b : α} (e : a = b) (h : P b) : P a := e ▸ h
/-- the tokens: kinds 0..8 and 10..21, the value within its bounds -/
def tk_ok (k v : Int32) : Prop := ∃ n : Nat, k = nI n ∧ n < 22 ∧ n ≠ 9 ∧ ((n = 1 ∨ n = 10) → ∃ m : Nat, m < 6 ∧ v = nI m)
  ∧ ((n = 8 ∨ n = 13 ∨ n = 16 ∨ n = 19 ∨ n = 20) → ∃ m : Nat, m < 4 ∧ v = nI m)
  ∧ (n = 17 → v = 1 ∨ v = 2 ∨ v = 4 ∨ v = 5 ∨ v = 6)
  ∧ (n = 18 → ∃ m : Nat, m < 48 ∧ v = nI m ∧ m % 8 < 5)
/-- the catches of a TRY, its finally part -/
def tk_cn (v : Int32) : Nat := if v = 1 ∨ v = 5 then 1 else if v = 2 ∨ v = 6 then 2 else 0
def tk_fn (v : Int32) : Nat := if v = 1 ∨ v = 2 then 0 else 1
/-- how many parts a token has -/
def tk_np (k v : Int32) : Nat :=
  if k = 17 then 1 + tk_cn v + tk_fn v else if k = 12 then 3
  else if k = 2 ∨ k = 3 ∨ k = 4 ∨ k = 5 ∨ k = 6 ∨ k = 13 ∨ k = 14 then 2
  else if k = 7 ∨ k = 8 ∨ k = 10 ∨ k = 11 ∨ k = 16 ∨ k = 18 ∨ k = 21 then 1 else 0
/-- the sort of a token: 0 an expression, 1 a statement, 2 a catch -/
def tk_so (k : Int32) : Nat := if k < 9 then 0 else if k = 18 then 2 else 1
/-- the sort that part o must have -/
def tk_wt (k v : Int32) (o : Nat) : Nat :=
  if k = 17 then (if 0 < o ∧ o ≤ tk_cn v then 2 else 1)
  else if k = 12 ∨ k = 13 then (if 0 < o then 1 else 0)
  else if k = 14 ∨ k = 18 then 1 else 0
theorem tk_np_le {k v : Int32} (h : tk_ok k v) : tk_np k v ≤ 4 := by
  unfold tk_np tk_cn tk_fn
  repeat' split
  all_goals omega
/-- the 21 kinds -/
theorem tk_kinds {k v : Int32} (h : tk_ok k v) : k = 0 ∨ k = 1 ∨ k = 2 ∨ k = 3 ∨ k = 4 ∨ k = 5 ∨ k = 6 ∨ k = 7 ∨ k = 8 ∨ k = 10 ∨ k = 11 ∨ k = 12 ∨ k = 13 ∨ k = 14 ∨ k = 15 ∨ k = 16 ∨ k = 17 ∨ k = 18 ∨ k = 19 ∨ k = 20 ∨ k = 21 := by
  obtain ⟨n, rfl, h22, h9, -⟩ := h
  have : n = 0 ∨ n = 1 ∨ n = 2 ∨ n = 3 ∨ n = 4 ∨ n = 5 ∨ n = 6 ∨ n = 7 ∨ n = 8 ∨ n = 10 ∨ n = 11 ∨ n = 12 ∨ n = 13 ∨ n = 14 ∨ n = 15 ∨ n = 16 ∨ n = 17 ∨ n = 18 ∨ n = 19 ∨ n = 20 ∨ n = 21 := by omega
  rcases this with rfl | rfl | rfl | rfl | rfl | rfl | rfl | rfl | rfl | rfl | rfl | rfl | rfl | rfl | rfl | rfl | rfl | rfl | rfl | rfl | rfl <;> repeat (first | exact Or.inl rfl | exact rfl | apply Or.inr)
theorem tk_var {k v : Int32} (h : tk_ok k v) (hk : k = 1 ∨ k = 10) : ∃ m : Nat, m < 6 ∧ v = nI m := by
  obtain ⟨n, rfl, h22, h9, a, _⟩ := h
  exact a (by rcases hk with e | e; exact Or.inl ((nI_eq (b := 1) (by omega) (by omega)).mp e); exact Or.inr ((nI_eq (b := 10) (by omega) (by omega)).mp e))
theorem tk_fou {k v : Int32} (h : tk_ok k v) (hk : k = 8 ∨ k = 13 ∨ k = 16 ∨ k = 19 ∨ k = 20) : ∃ m : Nat, m < 4 ∧ v = nI m := by
  obtain ⟨n, rfl, h22, h9, _, a, _⟩ := h
  refine a ?_
  rcases hk with e | e | e | e | e
  · exact Or.inl ((nI_eq (b := 8) (by omega) (by omega)).mp e)
  · exact Or.inr (Or.inl ((nI_eq (b := 13) (by omega) (by omega)).mp e))
  · exact Or.inr (Or.inr (Or.inl ((nI_eq (b := 16) (by omega) (by omega)).mp e)))
  · exact Or.inr (Or.inr (Or.inr (Or.inl ((nI_eq (b := 19) (by omega) (by omega)).mp e))))
  · exact Or.inr (Or.inr (Or.inr (Or.inr ((nI_eq (b := 20) (by omega) (by omega)).mp e))))
theorem tk_try {v : Int32} (h : tk_ok 17 v) : v = 1 ∨ v = 2 ∨ v = 4 ∨ v = 5 ∨ v = 6 := by
  obtain ⟨n, e, h22, h9, _, _, a, _⟩ := h
  exact a ((nI_eq (b := 17) (by omega) (by omega)).mp e.symm)
theorem tk_cat {v : Int32} (h : tk_ok 18 v) : ∃ m : Nat, m < 48 ∧ v = nI m ∧ m % 8 < 5 := by
  obtain ⟨n, e, h22, h9, _, _, _, a⟩ := h
  exact a ((nI_eq (b := 18) (by omega) (by omega)).mp e.symm)
end
section
/-- where part o of token i begins: behind the token, part by part -/
def tr_ca (z : Nat → Int32) (i : Nat) : Nat → Nat
  | 0 => i + 1
  | o + 1 => tr_ca z i o + (z (tr_ca z i o)).toNatClampNeg
/-- token i is a loop with this label -/
def tr_m (k v : Nat → Int32) (lab : Int32) (i : Nat) : Prop := k i = 13 ∧ v i = lab
/-- up from i, itself included, the first loop with this label is t -/
def tr_nl (k v u : Nat → Int32) (lab : Int32) : Nat → Nat → Nat → Prop
  | 0, _, _ => False
  | n + 1, i, t => (tr_m k v lab i ∧ t = i) ∨ (¬ tr_m k v lab i ∧ ∃ p, u i = nI p ∧ p < i ∧ tr_nl k v u lab n p t)
def tr_NL (k v u : Nat → Int32) (lab : Int32) (i t : Nat) : Prop := ∃ n, tr_nl k v u lab n i t
theorem tr_NL_u {k v u : Nat → Int32} {lab : Int32} {i t : Nat} (h : tr_NL k v u lab i t) : (tr_m k v lab i ∧ t = i) ∨ (¬ tr_m k v lab i ∧ ∃ p, u i = nI p ∧ p < i ∧ tr_NL k v u lab p t) := by
  obtain ⟨n, h⟩ := h
  cases n with
  | zero => exact h.elim
  | succ n =>
    rcases h with h | ⟨hm, p, e, hp, h⟩
    · exact Or.inl h
    · exact Or.inr ⟨hm, p, e, hp, n, h⟩
theorem tr_NL_m {k v u : Nat → Int32} {lab : Int32} {i : Nat} (h : tr_m k v lab i) : tr_NL k v u lab i i := ⟨1, Or.inl ⟨h, rfl⟩⟩
theorem tr_NL_p {k v u : Nat → Int32} {lab : Int32} {i p t : Nat} (hm : ¬ tr_m k v lab i) (e : u i = nI p) (hp : p < i) (h : tr_NL k v u lab p t) : tr_NL k v u lab i t := by
  obtain ⟨n, h⟩ := h
  exact ⟨n + 1, Or.inr ⟨hm, p, e, hp, h⟩⟩
theorem tr_nl_le {k v u : Nat → Int32} {lab : Int32} : ∀ n i t, tr_nl k v u lab n i t → t ≤ i ∧ tr_m k v lab t := by
  intro n
  induction n with
  | zero => intro i t h; exact h.elim
  | succ n ih =>
    intro i t h
    rcases h with ⟨h, rfl⟩ | ⟨_, p, _, hp, h⟩
    · exact ⟨Nat.le_refl _, h⟩
    · have := ih p t h
      exact ⟨by omega, this.2⟩
theorem tr_NL_le {k v u : Nat → Int32} {lab : Int32} {i t : Nat} (h : tr_NL k v u lab i t) : t ≤ i ∧ tr_m k v lab t := by
  obtain ⟨n, h⟩ := h
  exact tr_nl_le n i t h
/-- up from i to its parent p -/
theorem tr_NL_up {k v u : Nat → Int32} {lab : Int32} {i p t : Nat} (hm : ¬ tr_m k v lab i) (h : tr_NL k v u lab i t) (e : u i = nI p) (hi : i < 2 ^ 31) (hp : p < 2 ^ 31) : tr_NL k v u lab p t := by
  rcases tr_NL_u h with ⟨hm', _⟩ | ⟨_, q, eq, hq, h⟩
  · exact (hm hm').elim
  · have : q = p := (nI_eq (by omega) hp).mp (eq.symm.trans e)
    exact this ▸ h
theorem tr_nl_congr {k v u k' v' u' : Nat → Int32} {lab : Int32} {L : Nat} (hk : ∀ i, i < L → k' i = k i) (hv : ∀ i, i < L → v' i = v i) (hu : ∀ i, i < L → u' i = u i) : ∀ n i t, i < L → tr_nl k v u lab n i t → tr_nl k' v' u' lab n i t := by
  intro n
  induction n with
  | zero => intro i t _ h; exact h
  | succ n ih =>
    intro i t hi h
    have e : tr_m k' v' lab i ↔ tr_m k v lab i := by unfold tr_m; rw [hk i hi, hv i hi]
    rcases h with ⟨h, rfl⟩ | ⟨hm, p, eu, hp, h⟩
    · exact Or.inl ⟨e.mpr h, rfl⟩
    · exact Or.inr ⟨fun z => hm (e.mp z), p, (hu i hi).trans eu, hp, ih p t (by omega) h⟩
theorem tr_NL_congr {k v u k' v' u' : Nat → Int32} {lab : Int32} {L : Nat} (hk : ∀ i, i < L → k' i = k i) (hv : ∀ i, i < L → v' i = v i) (hu : ∀ i, i < L → u' i = u i) {i t : Nat} (hi : i < L) (h : tr_NL k v u lab i t) : tr_NL k' v' u' lab i t := by
  obtain ⟨n, h⟩ := h
  exact ⟨n, tr_nl_congr hk hv hu n i t hi h⟩
/-- token i of a good body of L tokens -/
def tr_N (L : Nat) (k v z u bl : Nat → Int32) (i : Nat) : Prop :=
  tk_ok (k i) (v i) ∧ (∃ s, z i = nI s ∧ 1 ≤ s ∧ i + s ≤ L ∧ tr_ca z i (tk_np (k i) (v i)) = i + s) ∧
  (∀ o, o < tk_np (k i) (v i) → tr_ca z i o < L ∧ bl (4 * i + o) = nI (tr_ca z i o) ∧ u (tr_ca z i o) = nI i ∧ tk_so (k (tr_ca z i o)) = tk_wt (k i) (v i) o) ∧
  ((k i = 19 ∨ k i = 20) → ∃ p t, u i = nI p ∧ p < i ∧ tr_NL k v u (v i) p t)
/-- a good body of L tokens -/
def tr_T (L : Nat) (k v z u bl : Nat → Int32) : Prop :=
  1 ≤ L ∧ L ≤ 40 ∧ tk_so (k 0) = 1 ∧ ∀ i, i < L → tr_N L k v z u bl i
theorem tr_ca_congr {z z' : Nat → Int32} {L : Nat} (hz : ∀ i, i < L → z' i = z i) (i : Nat) : ∀ o, (∀ o', o' < o → tr_ca z i o' < L) → tr_ca z' i o = tr_ca z i o := by
  intro o
  induction o with
  | zero => intro _; rfl
  | succ o ih =>
    intro h
    show tr_ca z' i o + _ = tr_ca z i o + _
    rw [ih (fun o' ho => h o' (by omega)), hz _ (h o (by omega))]
theorem tr_T_congr {L : Nat} {k v z u bl k' v' z' u' bl' : Nat → Int32} (hk : ∀ i, i < L → k' i = k i) (hv : ∀ i, i < L → v' i = v i) (hz : ∀ i, i < L → z' i = z i) (hu : ∀ i, i < L → u' i = u i) (hb : ∀ j, j < 4 * L → bl' j = bl j) (h : tr_T L k v z u bl) : tr_T L k' v' z' u' bl' := by
  obtain ⟨h1, h2, h3, h4⟩ := h
  refine ⟨h1, h2, by rw [hk 0 (by omega)]; exact h3, fun i hi => ?_⟩
  obtain ⟨a, ⟨s, es, s1, s2, s3⟩, b, c⟩ := h4 i hi
  have ec : ∀ o, o ≤ tk_np (k i) (v i) → tr_ca z' i o = tr_ca z i o := fun o ho => tr_ca_congr hz i o (fun o' ho' => (b o' (by omega)).1)
  unfold tr_N
  rw [hk i hi, hv i hi]
  refine ⟨a, ⟨s, (hz i hi).trans es, s1, s2, (ec _ (Nat.le_refl _)).trans s3⟩, fun o ho => ?_, fun z => ?_⟩
  · have hn := tk_np_le a
    obtain ⟨b1, b2, b3, b4⟩ := b o ho
    rw [ec o (by omega)]
    exact ⟨b1, (hb _ (by omega)).trans b2, (hu _ b1).trans b3, by rw [hk _ b1]; exact b4⟩
  · obtain ⟨p, t, e, hp, hn⟩ := c z
    exact ⟨p, t, (hu i hi).trans e, hp, tr_NL_congr hk hv hu (by omega) hn⟩
section
variable {L : Nat} {k v z u bl : Nat → Int32}
theorem tr_sz (h : tr_T L k v z u bl) {i : Nat} (hi : i < L) : ∃ s, z i = nI s ∧ 1 ≤ s ∧ i + s ≤ L ∧ tr_ca z i (tk_np (k i) (v i)) = i + s ∧ (z i).toNatClampNeg = s := by
  obtain ⟨s, e, a, b, c⟩ := (h.2.2.2 i hi).2.1
  exact ⟨s, e, a, b, c, by rw [e]; exact nI_clamp (by have := h.2.1; omega)⟩
theorem tr_ca_s (h : tr_T L k v z u bl) {i : Nat} (hi : i < L) {o : Nat} (ho : o < tk_np (k i) (v i)) : ∃ s, z (tr_ca z i o) = nI s ∧ 1 ≤ s ∧ tr_ca z i o + s ≤ L ∧ tr_ca z i (o + 1) = tr_ca z i o + s ∧ (z (tr_ca z i o)).toNatClampNeg = s := by
  obtain ⟨s, e, a, b, c, d⟩ := tr_sz h ((h.2.2.2 i hi).2.2.1 o ho).1
  exact ⟨s, e, a, b, by show _ + _ = _; rw [d], d⟩
theorem tr_ca_lt (h : tr_T L k v z u bl) {i : Nat} (hi : i < L) {o o' : Nat} (hoo : o < o') (ho : o' ≤ tk_np (k i) (v i)) : tr_ca z i o < tr_ca z i o' := by
  induction o' with
  | zero => omega
  | succ m ih =>
    obtain ⟨s, _, s1, _, e, _⟩ := tr_ca_s h hi (o := m) (by omega)
    rw [e]
    by_cases hm : o = m
    · subst hm; omega
    · have := ih (by omega) (by omega); omega
theorem tr_ca_le (h : tr_T L k v z u bl) {i : Nat} (hi : i < L) {o o' : Nat} (hoo : o ≤ o') (ho : o' ≤ tk_np (k i) (v i)) : tr_ca z i o ≤ tr_ca z i o' := by
  by_cases e : o = o'
  · subst e; exact Nat.le_refl _
  · exact Nat.le_of_lt (tr_ca_lt h hi (by omega) ho)
theorem tr_ca_gt (h : tr_T L k v z u bl) {i : Nat} (hi : i < L) {o : Nat} (ho : o ≤ tk_np (k i) (v i)) : i < tr_ca z i o := by
  have := tr_ca_le h hi (Nat.zero_le o) ho
  have e : tr_ca z i 0 = i + 1 := rfl
  omega
end
end
section
/-- the codes of n parts of token i, from part o on -/
def ps_ch (i : Nat) : Nat → Nat → List Nat
  | _, 0 => []
  | o, n + 1 => (4 * i + o) :: ps_ch i (o + 1) n
/-- the places that are open ahead of token i; 4000 is the root's -/
def ps_st (k v : Nat → Int32) : Nat → List Nat
  | 0 => [4000]
  | i + 1 => ps_ch i 0 (tk_np (k i) (v i)) ++ (ps_st k v i).tail
def ps_wn (k v : Nat → Int32) (x : Nat) : Nat := if x = 4000 then 1 else tk_wt (k (x / 4)) (v (x / 4)) (x % 4)
/-- the first i tokens fit -/
def ps_ok (k v : Nat → Int32) (i : Nat) : Prop := ∀ j, j < i → ∃ x xs, ps_st k v j = x :: xs ∧ tk_so (k j) = ps_wn k v x
def ps_nd : List Nat → Prop
  | [] => True
  | x :: xs => ¬ x ∈ xs ∧ ps_nd xs
theorem ps_ch_mem {i x : Nat} : ∀ n o, x ∈ ps_ch i o n → ∃ q, o ≤ q ∧ q < o + n ∧ x = 4 * i + q := by
  intro n
  induction n with
  | zero => intro o h; cases h
  | succ n ih =>
    intro o h
    rcases List.mem_cons.mp h with e | h
    · exact ⟨o, by omega, by omega, e⟩
    · obtain ⟨q, a, b, c⟩ := ih (o + 1) h
      exact ⟨q, by omega, by omega, c⟩
theorem ps_ch_len {i : Nat} : ∀ n o, (ps_ch i o n).length = n := by
  intro n
  induction n with
  | zero => intro o; rfl
  | succ n ih => intro o; show _ + 1 = _; rw [ih]
theorem ps_nd_ch {i : Nat} {l : List Nat} (hl : ps_nd l) (hm : ∀ y, y ∈ l → y < 4 * i ∨ 4 * i + 4 ≤ y) : ∀ n o, o + n ≤ 4 → ps_nd (ps_ch i o n ++ l) := by
  intro n
  induction n with
  | zero => intro o _; exact hl
  | succ n ih =>
    intro o h
    refine ⟨fun z => ?_, ih (o + 1) (by omega)⟩
    rcases List.mem_append.mp z with z | z
    · obtain ⟨q, a, b, c⟩ := ps_ch_mem n (o + 1) z
      omega
    · have := hm _ z
      omega
section
variable {k v : Nat → Int32} {L : Nat}
theorem ps_mem (i : Nat) : ∀ x, x ∈ ps_st k v i → x = 4000 ∨ ∃ p o, x = 4 * p + o ∧ p < i ∧ o < tk_np (k p) (v p) := by
  induction i with
  | zero => intro x h; exact Or.inl (List.mem_singleton.mp h)
  | succ i ih =>
    intro x h
    rcases List.mem_append.mp h with h | h
    · obtain ⟨q, a, b, c⟩ := ps_ch_mem _ _ h
      exact Or.inr ⟨i, q, c, by omega, by omega⟩
    · rcases ih x (List.mem_of_mem_tail h) with e | ⟨p, o, a, b, c⟩
      · exact Or.inl e
      · exact Or.inr ⟨p, o, a, by omega, c⟩
theorem ps_nd_tl {l : List Nat} (h : ps_nd l) : ps_nd l.tail := by
  cases l with
  | nil => trivial
  | cons x xs => exact h.2
theorem ps_lt (H : ∀ i, i < L → tk_ok (k i) (v i)) (i : Nat) (hi : i ≤ L) (x : Nat) (h : x ∈ ps_st k v i) : x = 4000 ∨ x < 4 * i := by
  rcases ps_mem i x h with e | ⟨p, o, a, b, c⟩
  · exact Or.inl e
  · have := tk_np_le (H p (by omega))
    exact Or.inr (by omega)
theorem ps_nodup (H : ∀ i, i < L → tk_ok (k i) (v i)) (hL : L ≤ 40) : ∀ i, i ≤ L → ps_nd (ps_st k v i) := by
  intro i
  induction i with
  | zero => intro _; exact ⟨fun z => (List.not_mem_nil z), trivial⟩
  | succ i ih =>
    intro hi
    refine ps_nd_ch (ps_nd_tl (ih (by omega))) (fun y hy => ?_) _ _ (by have := tk_np_le (H i (by omega)); omega)
    rcases ps_lt H i (by omega) y (List.mem_of_mem_tail hy) with e | e <;> omega
/-- what was taken off never comes again -/
theorem ps_gone (H : ∀ i, i < L → tk_ok (k i) (v i)) (hL : L ≤ 40) {j x : Nat} {xs : List Nat} (e : ps_st k v j = x :: xs) : ∀ i, j < i → i ≤ L → ¬ x ∈ ps_st k v i := by
  intro i
  induction i with
  | zero => intro h; omega
  | succ i ih =>
    intro h hi z
    have hx := ps_lt H j (by omega) x (by rw [e]; exact List.mem_cons_self ..)
    rcases List.mem_append.mp z with z | z
    · obtain ⟨q, a, b, c⟩ := ps_ch_mem _ _ z
      have := tk_np_le (H i (by omega))
      omega
    · by_cases hj : i = j
      · subst hj
        have hn := ps_nodup H hL i (by omega)
        rw [e] at z hn
        exact hn.1 z
      · exact ih (by omega) (by omega) (List.mem_of_mem_tail z)
theorem ps_once (H : ∀ i, i < L → tk_ok (k i) (v i)) (hL : L ≤ 40) {i j x : Nat} {xs ys : List Nat} (hi : i ≤ L) (hj : j ≤ L) (e : ps_st k v j = x :: xs) (e' : ps_st k v i = x :: ys) : i = j := by
  rcases Nat.lt_trichotomy i j with h | h | h
  · exact (ps_gone H hL e' j h hj (by rw [e]; exact List.mem_cons_self ..)).elim
  · exact h
  · exact (ps_gone H hL e i h hi (by rw [e']; exact List.mem_cons_self ..)).elim
theorem ps_len (H : ∀ i, i < L → tk_ok (k i) (v i)) : ∀ i, i ≤ L → ps_ok k v i → (ps_st k v i).length ≤ 1 + 3 * i := by
  intro i
  induction i with
  | zero => intro _ _; exact Nat.le_refl _
  | succ i ih =>
    intro hi hne
    have a := ih (by omega) (fun j hj => hne j (by omega))
    have b := tk_np_le (H i (by omega))
    obtain ⟨x, xs, e, _⟩ := hne i (by omega)
    show (ps_ch i 0 _ ++ (ps_st k v i).tail).length ≤ _
    rw [List.length_append, ps_ch_len, List.length_tail]
    rw [e] at a ⊢
    have : (x :: xs).length = xs.length + 1 := rfl
    omega
/-- token j's size is told right -/
def ps_gd (L : Nat) (k v z : Nat → Int32) (j : Nat) : Prop := ∃ s, 1 ≤ s ∧ j + s ≤ L ∧ z j = nI s ∧ ps_st k v (j + s) = (ps_st k v j).tail ∧ tr_ca z j (tk_np (k j) (v j)) = j + s
theorem ps_child (hL : L ≤ 40) (hE : ps_st k v L = []) {z : Nat → Int32} {i : Nat} (hi : i < L) (G : ∀ j, i < j → j < L → ps_gd L k v z j) : ∀ o, o ≤ tk_np (k i) (v i) → i < tr_ca z i o ∧ tr_ca z i o ≤ L ∧ ps_st k v (tr_ca z i o) = ps_ch i o (tk_np (k i) (v i) - o) ++ (ps_st k v i).tail ∧ (o < tk_np (k i) (v i) → tr_ca z i o < L) := by
  intro o
  induction o with
  | zero =>
    intro _
    have e : ps_st k v (i + 1) = ps_ch i 0 (tk_np (k i) (v i)) ++ (ps_st k v i).tail := rfl
    refine ⟨Nat.lt_succ_self i, hi, e, fun h => ?_⟩
    show i + 1 < L
    by_cases hh : i + 1 = L
    · rw [hh, hE] at e
      generalize tk_np (k i) (v i) = n at *
      cases n with
      | zero => omega
      | succ n => cases e
    · omega
  | succ o ih =>
    intro ho
    obtain ⟨a0, a, b, c⟩ := ih (by omega)
    have hlt := c (by omega)
    obtain ⟨s, s1, s2, s3, s4, s5⟩ := G _ a0 hlt
    have ec : tr_ca z i (o + 1) = tr_ca z i o + s := by
      show _ + _ = _
      rw [s3, nI_clamp (by omega)]
    obtain ⟨m, em⟩ : ∃ m, tk_np (k i) (v i) - o = m + 1 := ⟨tk_np (k i) (v i) - o - 1, by omega⟩
    have e2 : ps_st k v (tr_ca z i o + s) = ps_ch i (o + 1) (tk_np (k i) (v i) - (o + 1)) ++ (ps_st k v i).tail := by
      rw [s4, b, em, show tk_np (k i) (v i) - (o + 1) = m from by omega]
      rfl
    rw [ec]
    refine ⟨by omega, s2, e2, fun h => ?_⟩
    by_cases hh : tr_ca z i o + s = L
    · rw [hh, hE] at e2
      obtain ⟨m, em⟩ : ∃ m, tk_np (k i) (v i) - (o + 1) = m + 1 := ⟨tk_np (k i) (v i) - (o + 1) - 1, by omega⟩
      rw [em] at e2
      cases e2
    · omega
/-- a token's size, told by the sizes behind it -/
theorem ps_gd_new (hL : L ≤ 40) (hE : ps_st k v L = []) {z : Nat → Int32} {i : Nat} (hi : i < L) (G : ∀ j, i < j → j < L → ps_gd L k v z j) (hz : z i = nI (tr_ca z i (tk_np (k i) (v i)) - i)) : ps_gd L k v z i := by
  obtain ⟨a, b, c, _⟩ := ps_child hL hE hi G _ (Nat.le_refl _)
  refine ⟨tr_ca z i (tk_np (k i) (v i)) - i, by omega, by omega, hz, ?_, by omega⟩
  rw [show i + (tr_ca z i (tk_np (k i) (v i)) - i) = tr_ca z i (tk_np (k i) (v i)) from by omega, c, Nat.sub_self]
  rfl
/-- what Y's parse has written of token j -/
def ps_y (k v u bl : Nat → Int32) (j : Nat) : Prop := ∀ x xs, ps_st k v j = x :: xs → (x = 4000 → u j = -1) ∧ (x ≠ 4000 → u j = nI (x / 4) ∧ bl x = nI j)
variable {z u bl : Nat → Int32}
theorem ps_hd (H : ∀ i, i < L → tk_ok (k i) (v i)) (hL : L ≤ 40) (hE : ps_st k v L = []) (G : ∀ j, j < L → ps_gd L k v z j) {i o : Nat} (hi : i < L) (ho : o < tk_np (k i) (v i)) : tr_ca z i o < L ∧ ∃ xs, ps_st k v (tr_ca z i o) = (4 * i + o) :: xs := by
  obtain ⟨a0, a, b, c⟩ := ps_child hL hE hi (fun j _ hj => G j hj) o (by omega)
  refine ⟨c ho, ?_⟩
  obtain ⟨m, em⟩ : ∃ m, tk_np (k i) (v i) - o = m + 1 := ⟨tk_np (k i) (v i) - o - 1, by omega⟩
  rw [b, em]
  exact ⟨_, rfl⟩
/-- each token but the first is a part of its parent -/
theorem ps_par (H : ∀ i, i < L → tk_ok (k i) (v i)) (hL : L ≤ 40) (hE : ps_st k v L = []) (hok : ps_ok k v L) (G : ∀ j, j < L → ps_gd L k v z j) (hy : ∀ j, j < L → ps_y k v u bl j) {i : Nat} (h0 : 0 < i) (hi : i < L) : ∃ p o, p < i ∧ o < tk_np (k p) (v p) ∧ i = tr_ca z p o ∧ u i = nI p := by
  obtain ⟨x, xs, e, _⟩ := hok i hi
  rcases ps_mem i x (by rw [e]; exact List.mem_cons_self ..) with rfl | ⟨p, o, rfl, hp, ho⟩
  · have := ps_once H hL (j := 0) (i := i) (x := 4000) (xs := []) (by omega) (by omega) rfl e
    omega
  · have hn := tk_np_le (H p (by omega))
    obtain ⟨a, ys, e'⟩ := ps_hd H hL hE G (by omega) ho
    have := ps_once H hL (by omega) (by omega) e' e
    refine ⟨p, o, hp, ho, this, ?_⟩
    have := ((hy i hi) _ _ e).2 (by omega)
    rw [this.1]
    exact congrArg nI (by omega)
theorem ps_s (G : ∀ j, j < L → ps_gd L k v z j) (hL : L ≤ 40) {j : Nat} (hj : j < L) : tr_ca z j (tk_np (k j) (v j)) = j + (z j).toNatClampNeg ∧ 1 ≤ (z j).toNatClampNeg ∧ j + (z j).toNatClampNeg ≤ L := by
  obtain ⟨s, s1, s2, s3, s4, s5⟩ := G j hj
  rw [s3, nI_clamp (by omega)]
  exact ⟨s5, s1, s2⟩
theorem ps_mono (hL : L ≤ 40) (hE : ps_st k v L = []) (G : ∀ j, j < L → ps_gd L k v z j) {i : Nat} (hi : i < L) : ∀ o', o' ≤ tk_np (k i) (v i) → ∀ o, o ≤ o' → tr_ca z i o ≤ tr_ca z i o' := by
  intro o'
  induction o' with
  | zero => intro _ o ho; rw [show o = 0 from by omega]; exact Nat.le_refl _
  | succ m ih =>
    intro hm o ho
    by_cases e : o = m + 1
    · subst e; exact Nat.le_refl _
    · have := ih (by omega) o (by omega)
      show _ ≤ _ + _
      omega
/-- i lies in one of the parts of j -/
theorem ps_find (hL : L ≤ 40) (hE : ps_st k v L = []) (G : ∀ j, j < L → ps_gd L k v z j) {i j : Nat} (hj : j < L) (h1 : j < i) : ∀ n, n ≤ tk_np (k j) (v j) → i < tr_ca z j n → ∃ o, o < n ∧ tr_ca z j o ≤ i ∧ i < tr_ca z j (o + 1) := by
  intro n
  induction n with
  | zero => intro _ h; have : tr_ca z j 0 = j + 1 := rfl; omega
  | succ n ih =>
    intro hn h
    by_cases hh : i < tr_ca z j n
    · obtain ⟨o, a, b⟩ := ih (by omega) hh
      exact ⟨o, by omega, b⟩
    · exact ⟨n, by omega, by omega, h⟩
/-- n + 1 times up from i is j -/
def ps_R (u : Nat → Int32) : Nat → Nat → Nat → Prop
  | 0, i, j => i = j
  | n + 1, i, j => ∃ q, u i = nI q ∧ q < i ∧ ps_R u n q j
theorem ps_R_app {u : Nat → Int32} {j c : Nat} (e : u c = nI j) (h : j < c) : ∀ n i, ps_R u n i c → ps_R u (n + 1) i j := by
  intro n
  induction n with
  | zero => intro i hr; cases hr; exact ⟨j, e, h, rfl⟩
  | succ n ih =>
    intro i hr
    obtain ⟨q, a, b, c⟩ := hr
    exact ⟨q, a, b, ih q c⟩
theorem ps_in (H : ∀ i, i < L → tk_ok (k i) (v i)) (hL : L ≤ 40) (hE : ps_st k v L = []) (G : ∀ j, j < L → ps_gd L k v z j) (hy : ∀ j, j < L → ps_y k v u bl j) : ∀ d i j, i - j ≤ d → j < i → i < L → i < j + (z j).toNatClampNeg → ∃ n, ps_R u (n + 1) i j := by
  intro d
  induction d with
  | zero => intro i j h h1; omega
  | succ d ih =>
    intro i j hd h1 hi h2
    have hs := ps_s G hL (show j < L from by omega)
    obtain ⟨o, ho, a, b⟩ := ps_find hL hE G (by omega) h1 _ (Nat.le_refl _) (by omega)
    obtain ⟨c1, ys, e'⟩ := ps_hd H hL hE G (by omega) ho
    have hn := tk_np_le (H j (by omega))
    have eu : u (tr_ca z j o) = nI j := by
      have := ((hy _ c1) _ _ e').2 (by omega)
      rw [this.1]
      exact congrArg nI (by omega)
    have hgt := (ps_child (i := j) hL hE (by omega) (fun j _ hj => G j hj) o (by omega)).1
    by_cases hh : tr_ca z j o = i
    · exact ⟨0, j, by rw [← hh]; exact eu, h1, rfl⟩
    · obtain ⟨n, hr⟩ := ih i (tr_ca z j o) (by omega) (by omega) hi b
      exact ⟨n + 1, ps_R_app eu hgt (n + 1) i hr⟩
theorem ps_R_NL {lab : Int32} {j : Nat} (hm : tr_m k v lab j) : ∀ n p, ps_R u n p j → ∃ t, tr_NL k v u lab p t := by
  intro n
  induction n with
  | zero => intro p h; cases h; exact ⟨_, tr_NL_m hm⟩
  | succ n ih =>
    intro p h
    obtain ⟨q, a, b, c⟩ := h
    by_cases hp : tr_m k v lab p
    · exact ⟨p, tr_NL_m hp⟩
    · obtain ⟨t, ht⟩ := ih q c
      exact ⟨t, tr_NL_p hp a b ht⟩
theorem ps_chain (H : ∀ i, i < L → tk_ok (k i) (v i)) (hL : L ≤ 40) (hE : ps_st k v L = []) (hok : ps_ok k v L) (G : ∀ j, j < L → ps_gd L k v z j) (hy : ∀ j, j < L → ps_y k v u bl j) {lab : Int32} : ∀ n p t, p < L → tr_nl k v u lab n p t → t ≤ p ∧ p + (z p).toNatClampNeg ≤ t + (z t).toNatClampNeg ∧ tr_m k v lab t := by
  intro n
  induction n with
  | zero => intro p t _ h; exact h.elim
  | succ n ih =>
    intro p t hp h
    rcases h with ⟨hm, rfl⟩ | ⟨_, q, eq, hq, h⟩
    · exact ⟨Nat.le_refl _, Nat.le_refl _, hm⟩
    · obtain ⟨a, b, c⟩ := ih q t (by omega) h
      obtain ⟨q', o, hq', ho, e1, e2⟩ := ps_par H hL hE hok G hy (show 0 < p from by omega) hp
      have : q = q' := (nI_eq (by omega) (by omega)).mp (eq.symm.trans e2)
      subst this
      have hs := ps_s G hL (show q < L from by omega)
      have hm := ps_mono hL hE G (show q < L from by omega) _ (Nat.le_refl _) (o + 1) (by omega)
      have e3 : tr_ca z q (o + 1) = tr_ca z q o + (z (tr_ca z q o)).toNatClampNeg := rfl
      rw [← e1] at e3
      exact ⟨by omega, by omega, c⟩
/-- X's look over the intervals and Y's way up say the same -/
theorem ps_bound (H : ∀ i, i < L → tk_ok (k i) (v i)) (hL : L ≤ 40) (hE : ps_st k v L = []) (hok : ps_ok k v L) (G : ∀ j, j < L → ps_gd L k v z j) (hy : ∀ j, j < L → ps_y k v u bl j) {lab : Int32} {i : Nat} (hi : i < L) : (∃ j, j < i ∧ i < j + (z j).toNatClampNeg ∧ tr_m k v lab j) ↔ ∃ p t, u i = nI p ∧ p < i ∧ tr_NL k v u lab p t := by
  constructor
  · rintro ⟨j, h1, h2, hm⟩
    obtain ⟨n, p, a, b, c⟩ := ps_in H hL hE G hy (i - j) i j (Nat.le_refl _) h1 hi h2
    obtain ⟨t, ht⟩ := ps_R_NL hm n p c
    exact ⟨p, t, a, b, ht⟩
  · rintro ⟨p, t, e, hp, n, hn⟩
    obtain ⟨a, b, c⟩ := ps_chain H hL hE hok G hy n p t (by omega) hn
    obtain ⟨q', o, hq', ho, e1, e2⟩ := ps_par H hL hE hok G hy (show 0 < i from by omega) hi
    have : p = q' := (nI_eq (by omega) (by omega)).mp (e.symm.trans e2)
    subst this
    have hs := ps_s G hL (show p < L from by omega)
    have hm := ps_mono hL hE G (show p < L from by omega) _ (Nat.le_refl _) (o + 1) (by omega)
    have e3 : tr_ca z p (o + 1) = tr_ca z p o + (z (tr_ca z p o)).toNatClampNeg := rfl
    rw [← e1] at e3
    have hs2 := ps_s G hL hi
    exact ⟨t, by omega, by omega, c⟩
/-- the body that was parsed, measured and found bound is good -/
theorem ps_T (H : ∀ i, i < L → tk_ok (k i) (v i)) (hL1 : 1 ≤ L) (hL : L ≤ 40) (hE : ps_st k v L = []) (hok : ps_ok k v L) (G : ∀ j, j < L → ps_gd L k v z j) (hy : ∀ j, j < L → ps_y k v u bl j) (hb : ∀ i, i < L → (k i = 19 ∨ k i = 20) → ∃ p t, u i = nI p ∧ p < i ∧ tr_NL k v u (v i) p t) : tr_T L k v z u bl := by
  refine ⟨hL1, hL, ?_, fun i hi => ⟨H i hi, ?_, fun o ho => ?_, hb i hi⟩⟩
  · obtain ⟨x, xs, e, e2⟩ := hok 0 (by omega)
    have : x = 4000 := (List.cons.inj e).1.symm
    subst this
    rw [e2]
    rfl
  · obtain ⟨s, s1, s2, s3, s4, s5⟩ := G i hi
    exact ⟨s, s3, s1, s2, s5⟩
  · obtain ⟨c1, ys, e'⟩ := ps_hd H hL hE G hi ho
    have hn := tk_np_le (H i hi)
    have h1 := ((hy _ c1) _ _ e').2 (by omega)
    obtain ⟨x, xs, e, e2⟩ := hok _ c1
    have : x = 4 * i + o := (List.cons.inj (e.symm.trans e')).1
    subst this
    refine ⟨c1, h1.2, ?_, ?_⟩
    · rw [h1.1]; exact congrArg nI (by omega)
    · rw [e2]
      unfold ps_wn
      rw [if_neg (by omega), show (4 * i + o) / 4 = i from by omega, show (4 * i + o) % 4 = o from by omega]
end
end
