section
theorem pk_us {f : Nat → Int32} {k : Nat} {x : Int32} : upd f k x k = x := if_pos rfl
theorem pk_un {f : Nat → Int32} {k j : Nat} {x : Int32} (h : j ≠ k) : upd f k x j = f j := if_neg h
theorem pk_sub {a b : Nat} (h : b ≤ a) : nI a - nI b = nI (a - b) := by
  obtain ⟨c, rfl⟩ : ∃ c, a = c + b := ⟨a - b, by omega⟩
  rw [← nI_add, Int32.add_sub_cancel, Nat.add_sub_cancel]
theorem pk_m1 (n : Nat) : nI (n + 1) + (-1) = nI n := by
  rw [← nI_1, Int32.add_assoc, show (1 : Int32) + (-1) = 0 from rfl, Int32.add_zero]
theorem pk_mul (a b : Nat) : nI a * nI b = nI (a * b) := (Int32.ofNat_mul a b).symm
theorem pk_div {a d : Nat} (ha : a < 2 ^ 31) (h0 : 0 < d) (hd : d < 2 ^ 31) : nI a / nI d = nI (a / d) := by
  apply Int32.toInt_inj.mp
  rw [lg_idiv_nonneg (by rw [nI_toInt ha]; omega) (by rw [nI_toInt hd]; omega), nI_toInt ha, nI_toInt hd, nI_toInt (Nat.lt_of_le_of_lt (Nat.div_le_self a d) ha)]
  first | rfl | exact (Int.natCast_ediv _ _).symm
theorem pk_rem {a d : Nat} (ha : a < 2 ^ 31) (h0 : 0 < d) (hd : d < 2 ^ 31) : nI a - nI a / nI d * nI d = nI (a % d) := by
  rw [pk_div ha h0 hd, pk_mul, pk_sub (Nat.div_mul_le_self a d)]
  exact congrArg nI (by have := Nat.div_add_mod' a d; omega)
theorem pk_le {x y : Int32} {A B : Prop} (a b : Nat) (f : a ≤ b → A) (g : b < a → B) (hx : x = nI a := by rfl) (hy : y = nI b := by rfl) (ha : a < 2 ^ 31 := by omega) (hb : b < 2 ^ 31 := by omega) : (x ≤ y → A) ∧ (¬ x ≤ y → B) := by
  subst hx hy
  rw [nI_leI ha hb]
  exact ⟨f, fun z => g (by omega)⟩
theorem pk_lt {x y : Int32} {A B : Prop} (a b : Nat) (f : a < b → A) (g : b ≤ a → B) (hx : x = nI a := by rfl) (hy : y = nI b := by rfl) (ha : a < 2 ^ 31 := by omega) (hb : b < 2 ^ 31 := by omega) : (x < y → A) ∧ (¬ x < y → B) := by
  subst hx hy
  rw [nI_ltI ha hb]
  exact ⟨f, fun z => g (by omega)⟩
theorem pk_eq {x y : Int32} {A B : Prop} (a b : Nat) (f : a = b → A) (g : a ≠ b → B) (hx : x = nI a := by rfl) (hy : y = nI b := by rfl) (ha : a < 2 ^ 31 := by omega) (hb : b < 2 ^ 31 := by omega) : (x = y → A) ∧ (¬ x = y → B) := by
  subst hx hy
  rw [nI_eq ha hb]
  exact ⟨f, g⟩
theorem pk_in {x : Int32} (n N : Nat) (h : n < N) (hx : x = nI n := by rfl) (hN : N < 2 ^ 31 := by omega) : vp_in x N := by
  subst hx
  exact vp_in_nI h hN
theorem pk_cl {x : Int32} (n : Nat) (hx : x = nI n := by rfl) (h : n < 2 ^ 31 := by omega) : x.toNatClampNeg = n := by
  subst hx
  exact nI_clamp h
theorem pk_tn {n : Nat} (h : n < 2 ^ 32) : (nI n).toBitVec.toNat = n := Nat.mod_eq_of_lt h
theorem pk_and (x : Int32) {m : Int32} (k : Nat) (hm : m.toBitVec.toNat = 2 ^ k - 1) : x &&& m = nI (x.toBitVec.toNat % 2 ^ k) := by
  apply Int32.toBitVec_inj.mp
  apply BitVec.eq_of_toNat_eq
  rw [Int32.toBitVec_and, BitVec.toNat_and, hm, Nat.and_two_pow_sub_one_eq_mod]
  show _ = (BitVec.ofNat 32 _).toNat
  rw [BitVec.toNat_ofNat]
  exact (Nat.mod_eq_of_lt (Nat.lt_of_le_of_lt (Nat.mod_le _ _) x.toBitVec.isLt)).symm
theorem pk_andN {n : Nat} (h : n < 2 ^ 32) {m : Int32} (k : Nat) (hm : m.toBitVec.toNat = 2 ^ k - 1) : nI n &&& m = nI (n % 2 ^ k) := by
  rw [pk_and _ k hm, pk_tn h]
theorem pk_shr (a s : Int32) (k : Nat) (hs : (s.toBitVec.smod 32).toNat = k) : (a >>> s).toInt = a.toInt >>> k := by
  show (a.toBitVec.sshiftRight (s.toBitVec.smod 32).toNat).toInt = _
  rw [hs, BitVec.toInt_sshiftRight]
  rfl
theorem pk_shrN {n : Nat} (h : n < 2 ^ 31) (s : Int32) (k : Nat) (hs : (s.toBitVec.smod 32).toNat = k) : nI n >>> s = nI (n / 2 ^ k) := by
  apply Int32.toInt_inj.mp
  have h2 : n / 2 ^ k ≤ n := Nat.div_le_self _ _
  rw [pk_shr _ _ k hs, nI_toInt h, nI_toInt (by omega), Int.shiftRight_eq_div_pow]
  rfl
theorem qb_i8 {n : Nat} (h : n < 128) : (nI n).toInt8.toInt32 = nI n := lg_i2b_small (by rw [nI_toInt (by omega)]; omega) (by rw [nI_toInt (by omega)]; omega)
theorem qb_i16 {n : Nat} (h : n < 32768) : (nI n).toInt16.toInt32 = nI n := lg_i2s_small (by rw [nI_toInt (by omega)]; omega) (by rw [nI_toInt (by omega)]; omega)
theorem qb_nb {n : Nat} (h : n < 128) : vp_nar .byte (nI n) = nI n := by rw [vp_nar_byte, qb_i8 h]
theorem qb_ns {n : Nat} (h : n < 32768) : vp_nar .short (nI n) = nI n := by rw [vp_nar_short, qb_i16 h]
theorem qb_nb8 {n : Nat} (h : n < 128) : vp_nar .byte (nI n).toInt8.toInt32 = nI n := by rw [qb_i8 h, qb_nb h]
theorem qb_ns16 {n : Nat} (h : n < 32768) : vp_nar .short (nI n).toInt16.toInt32 = nI n := by rw [qb_i16 h, qb_ns h]
theorem qb_m1b : vp_nar .byte (-1 : Int32).toInt8.toInt32 = -1 := by rw [vp_nar_byte]; decide
theorem qb_m1b' : vp_nar .byte (-1 : Int32) = -1 := by rw [vp_nar_byte]; decide
theorem qb_m1s : vp_nar .short (-1 : Int32) = -1 := by rw [vp_nar_short]; decide
theorem qb_b1 : vp_nar .boolean 1 = 1 := rfl
theorem qb_b0 : vp_nar .boolean 0 = 0 := rfl
theorem qb_nr1 : narrow .boolean (.int 1) = .int 1 := rfl
theorem qb_nr0 : narrow .boolean (.int 0) = .int 0 := rfl
theorem qb_ne_m1 {n : Nat} (h : n < 2 ^ 31) : ¬ nI n = -1 := by
  intro e
  have := congrArg Int32.toInt e
  rw [nI_toInt h, show (-1 : Int32).toInt = -1 from by decide] at this
  omega
theorem qb_m1lt : (-1 : Int32) < 0 := by decide
/-- a function's number, or none -/
theorem qb_fun (x : Int32) {n : Nat} (hn : n < 2 ^ 31) : x < 0 ∨ (¬ x < 0 ∧ nI n ≤ x) ∨ ∃ j : Nat, j < n ∧ x = nI j := by
  by_cases h : x < 0
  · exact Or.inl h
  · obtain ⟨j, hj, rfl⟩ := nI_of h
    by_cases h2 : j < n
    · exact Or.inr (Or.inr ⟨j, h2, rfl⟩)
    · exact Or.inr (Or.inl ⟨h, nI_le (by omega) hj⟩)
/-- upd at a natural place -/
theorem qb_upd {f : Nat → Int32} {k j : Nat} {x : Int32} : upd f k x j = if j = k then x else f j := rfl
/-- what is asked at e' is asked at e -/
theorem qb_at {α : Sort _} {P : α → Prop} {a b : α} (e : a = b) (h : P b) : P a := e ▸ h
/-- the tokens: kinds 0..8 and 10..21, the value within its bounds -/
def tk_ok (k v : Int32) : Prop := ∃ n : Nat, k = nI n ∧ n < 22 ∧ n ≠ 9 ∧ ((n = 1 ∨ n = 10) → ∃ m : Nat, m < 6 ∧ v = nI m)
  ∧ ((n = 8 ∨ n = 13 ∨ n = 16 ∨ n = 19 ∨ n = 20) → ∃ m : Nat, m < 4 ∧ v = nI m)
  ∧ (n = 17 → v = 1 ∨ v = 2 ∨ v = 4 ∨ v = 5 ∨ v = 6)
  ∧ (n = 18 → ∃ m : Nat, m < 48 ∧ v = nI m ∧ m % 8 < 5)
/-- the catches of a TRY, its finally part -/
def tk_cn (v : Int32) : Nat := if v = 1 ∨ v = 5 then 1 else if v = 2 ∨ v = 6 then 2 else 0
def tk_fn (v : Int32) : Nat := if v = 1 ∨ v = 2 then 0 else 1
/-- how many parts a token has -/
def tk_np (k v : Int32) : Nat :=
  if k = 17 then 1 + tk_cn v + tk_fn v else if k = 12 then 3
  else if k = 2 ∨ k = 3 ∨ k = 4 ∨ k = 5 ∨ k = 6 ∨ k = 13 ∨ k = 14 then 2
  else if k = 7 ∨ k = 8 ∨ k = 10 ∨ k = 11 ∨ k = 16 ∨ k = 18 ∨ k = 21 then 1 else 0
/-- the sort of a token: 0 an expression, 1 a statement, 2 a catch -/
def tk_so (k : Int32) : Nat := if k < 9 then 0 else if k = 18 then 2 else 1
/-- the sort that part o must have -/
def tk_wt (k v : Int32) (o : Nat) : Nat :=
  if k = 17 then (if 0 < o ∧ o ≤ tk_cn v then 2 else 1)
  else if k = 12 ∨ k = 13 then (if 0 < o then 1 else 0)
  else if k = 14 ∨ k = 18 then 1 else 0
theorem tk_np_le {k v : Int32} (h : tk_ok k v) : tk_np k v ≤ 4 := by
  unfold tk_np tk_cn tk_fn
  repeat' split
  all_goals omega
/-- the 21 kinds -/
theorem tk_kinds {k v : Int32} (h : tk_ok k v) : k = 0 ∨ k = 1 ∨ k = 2 ∨ k = 3 ∨ k = 4 ∨ k = 5 ∨ k = 6 ∨ k = 7 ∨ k = 8 ∨ k = 10 ∨ k = 11 ∨ k = 12 ∨ k = 13 ∨ k = 14 ∨ k = 15 ∨ k = 16 ∨ k = 17 ∨ k = 18 ∨ k = 19 ∨ k = 20 ∨ k = 21 := by
  obtain ⟨n, rfl, h22, h9, -⟩ := h
  have : n = 0 ∨ n = 1 ∨ n = 2 ∨ n = 3 ∨ n = 4 ∨ n = 5 ∨ n = 6 ∨ n = 7 ∨ n = 8 ∨ n = 10 ∨ n = 11 ∨ n = 12 ∨ n = 13 ∨ n = 14 ∨ n = 15 ∨ n = 16 ∨ n = 17 ∨ n = 18 ∨ n = 19 ∨ n = 20 ∨ n = 21 := by omega
  rcases this with rfl | rfl | rfl | rfl | rfl | rfl | rfl | rfl | rfl | rfl | rfl | rfl | rfl | rfl | rfl | rfl | rfl | rfl | rfl | rfl | rfl <;> repeat (first | exact Or.inl rfl | exact rfl | apply Or.inr)
theorem tk_var {k v : Int32} (h : tk_ok k v) (hk : k = 1 ∨ k = 10) : ∃ m : Nat, m < 6 ∧ v = nI m := by
  obtain ⟨n, rfl, h22, h9, a, _⟩ := h
  exact a (by rcases hk with e | e; exact Or.inl ((nI_eq (b := 1) (by omega) (by omega)).mp e); exact Or.inr ((nI_eq (b := 10) (by omega) (by omega)).mp e))
theorem tk_fou {k v : Int32} (h : tk_ok k v) (hk : k = 8 ∨ k = 13 ∨ k = 16 ∨ k = 19 ∨ k = 20) : ∃ m : Nat, m < 4 ∧ v = nI m := by
  obtain ⟨n, rfl, h22, h9, _, a, _⟩ := h
  refine a ?_
  rcases hk with e | e | e | e | e
  · exact Or.inl ((nI_eq (b := 8) (by omega) (by omega)).mp e)
  · exact Or.inr (Or.inl ((nI_eq (b := 13) (by omega) (by omega)).mp e))
  · exact Or.inr (Or.inr (Or.inl ((nI_eq (b := 16) (by omega) (by omega)).mp e)))
  · exact Or.inr (Or.inr (Or.inr (Or.inl ((nI_eq (b := 19) (by omega) (by omega)).mp e))))
  · exact Or.inr (Or.inr (Or.inr (Or.inr ((nI_eq (b := 20) (by omega) (by omega)).mp e))))
theorem tk_try {v : Int32} (h : tk_ok 17 v) : v = 1 ∨ v = 2 ∨ v = 4 ∨ v = 5 ∨ v = 6 := by
  obtain ⟨n, e, h22, h9, _, _, a, _⟩ := h
  exact a ((nI_eq (b := 17) (by omega) (by omega)).mp e.symm)
theorem tk_cat {v : Int32} (h : tk_ok 18 v) : ∃ m : Nat, m < 48 ∧ v = nI m ∧ m % 8 < 5 := by
  obtain ⟨n, e, h22, h9, _, _, _, a⟩ := h
  exact a ((nI_eq (b := 18) (by omega) (by omega)).mp e.symm)
end
section
/-- where part o of token i begins: behind the token, part by part -/
def tr_ca (z : Nat → Int32) (i : Nat) : Nat → Nat
  | 0 => i + 1
  | o + 1 => tr_ca z i o + (z (tr_ca z i o)).toNatClampNeg
/-- token i is a loop with this label -/
def tr_m (k v : Nat → Int32) (lab : Int32) (i : Nat) : Prop := k i = 13 ∧ v i = lab
/-- up from i, itself included, the first loop with this label is t -/
def tr_nl (k v u : Nat → Int32) (lab : Int32) : Nat → Nat → Nat → Prop
  | 0, _, _ => False
  | n + 1, i, t => (tr_m k v lab i ∧ t = i) ∨ (¬ tr_m k v lab i ∧ ∃ p, u i = nI p ∧ p < i ∧ tr_nl k v u lab n p t)
def tr_NL (k v u : Nat → Int32) (lab : Int32) (i t : Nat) : Prop := ∃ n, tr_nl k v u lab n i t
theorem tr_NL_u {k v u : Nat → Int32} {lab : Int32} {i t : Nat} (h : tr_NL k v u lab i t) : (tr_m k v lab i ∧ t = i) ∨ (¬ tr_m k v lab i ∧ ∃ p, u i = nI p ∧ p < i ∧ tr_NL k v u lab p t) := by
  obtain ⟨n, h⟩ := h
  cases n with
  | zero => exact h.elim
  | succ n =>
    rcases h with h | ⟨hm, p, e, hp, h⟩
    · exact Or.inl h
    · exact Or.inr ⟨hm, p, e, hp, n, h⟩
theorem tr_NL_m {k v u : Nat → Int32} {lab : Int32} {i : Nat} (h : tr_m k v lab i) : tr_NL k v u lab i i := ⟨1, Or.inl ⟨h, rfl⟩⟩
theorem tr_NL_p {k v u : Nat → Int32} {lab : Int32} {i p t : Nat} (hm : ¬ tr_m k v lab i) (e : u i = nI p) (hp : p < i) (h : tr_NL k v u lab p t) : tr_NL k v u lab i t := by
  obtain ⟨n, h⟩ := h
  exact ⟨n + 1, Or.inr ⟨hm, p, e, hp, h⟩⟩
theorem tr_nl_le {k v u : Nat → Int32} {lab : Int32} : ∀ n i t, tr_nl k v u lab n i t → t ≤ i ∧ tr_m k v lab t := by
  intro n
  induction n with
  | zero => intro i t h; exact h.elim
  | succ n ih =>
    intro i t h
    rcases h with ⟨h, rfl⟩ | ⟨_, p, _, hp, h⟩
    · exact ⟨Nat.le_refl _, h⟩
    · have := ih p t h
      exact ⟨by omega, this.2⟩
theorem tr_NL_le {k v u : Nat → Int32} {lab : Int32} {i t : Nat} (h : tr_NL k v u lab i t) : t ≤ i ∧ tr_m k v lab t := by
  obtain ⟨n, h⟩ := h
  exact tr_nl_le n i t h
/-- up from i to its parent p -/
theorem tr_NL_up {k v u : Nat → Int32} {lab : Int32} {i p t : Nat} (hm : ¬ tr_m k v lab i) (h : tr_NL k v u lab i t) (e : u i = nI p) (hi : i < 2 ^ 31) (hp : p < 2 ^ 31) : tr_NL k v u lab p t := by
  rcases tr_NL_u h with ⟨hm', _⟩ | ⟨_, q, eq, hq, h⟩
  · exact (hm hm').elim
  · have : q = p := (nI_eq (by omega) hp).mp (eq.symm.trans e)
    exact this ▸ h
theorem tr_nl_congr {k v u k' v' u' : Nat → Int32} {lab : Int32} {L : Nat} (hk : ∀ i, i < L → k' i = k i) (hv : ∀ i, i < L → v' i = v i) (hu : ∀ i, i < L → ∀ p, p < L → u i = nI p → u' i = nI p) : ∀ n i t, i < L → tr_nl k v u lab n i t → tr_nl k' v' u' lab n i t := by
  intro n
  induction n with
  | zero => intro i t _ h; exact h
  | succ n ih =>
    intro i t hi h
    have e : tr_m k' v' lab i ↔ tr_m k v lab i := by unfold tr_m; rw [hk i hi, hv i hi]
    rcases h with ⟨h, rfl⟩ | ⟨hm, p, eu, hp, h⟩
    · exact Or.inl ⟨e.mpr h, rfl⟩
    · exact Or.inr ⟨fun z => hm (e.mp z), p, hu i hi p (by omega) eu, hp, ih p t (by omega) h⟩
theorem tr_NL_congr {k v u k' v' u' : Nat → Int32} {lab : Int32} {L : Nat} (hk : ∀ i, i < L → k' i = k i) (hv : ∀ i, i < L → v' i = v i) (hu : ∀ i, i < L → ∀ p, p < L → u i = nI p → u' i = nI p) {i t : Nat} (hi : i < L) (h : tr_NL k v u lab i t) : tr_NL k' v' u' lab i t := by
  obtain ⟨n, h⟩ := h
  exact ⟨n, tr_nl_congr hk hv hu n i t hi h⟩
/-- token i of a good body of L tokens -/
def tr_N (L : Nat) (k v z u bl : Nat → Int32) (i : Nat) : Prop :=
  tk_ok (k i) (v i) ∧ (∃ s, z i = nI s ∧ 1 ≤ s ∧ i + s ≤ L ∧ tr_ca z i (tk_np (k i) (v i)) = i + s) ∧
  (∀ o, o < tk_np (k i) (v i) → tr_ca z i o < L ∧ bl (4 * i + o) = nI (tr_ca z i o) ∧ u (tr_ca z i o) = nI i ∧ tk_so (k (tr_ca z i o)) = tk_wt (k i) (v i) o) ∧
  ((k i = 19 ∨ k i = 20) → ∃ p t, u i = nI p ∧ p < i ∧ tr_NL k v u (v i) p t)
/-- a good body of L tokens -/
def tr_T (L : Nat) (k v z u bl : Nat → Int32) : Prop :=
  1 ≤ L ∧ L ≤ 40 ∧ tk_so (k 0) = 1 ∧ ∀ i, i < L → tr_N L k v z u bl i
theorem tr_ca_congr {z z' : Nat → Int32} {L : Nat} (hz : ∀ i, i < L → z' i = z i) (i : Nat) : ∀ o, (∀ o', o' < o → tr_ca z i o' < L) → tr_ca z' i o = tr_ca z i o := by
  intro o
  induction o with
  | zero => intro _; rfl
  | succ o ih =>
    intro h
    show tr_ca z' i o + _ = tr_ca z i o + _
    rw [ih (fun o' ho => h o' (by omega)), hz _ (h o (by omega))]
theorem tr_T_congr {L : Nat} {k v z u bl k' v' z' u' bl' : Nat → Int32} (hk : ∀ i, i < L → k' i = k i) (hv : ∀ i, i < L → v' i = v i) (hz : ∀ i, i < L → z' i = z i) (hu : ∀ i, i < L → ∀ p, p < L → u i = nI p → u' i = nI p) (hb : ∀ j, j < 4 * L → ∀ c, c < L → bl j = nI c → bl' j = nI c) (h : tr_T L k v z u bl) : tr_T L k' v' z' u' bl' := by
  obtain ⟨h1, h2, h3, h4⟩ := h
  refine ⟨h1, h2, by rw [hk 0 (by omega)]; exact h3, fun i hi => ?_⟩
  obtain ⟨a, ⟨s, es, s1, s2, s3⟩, b, c⟩ := h4 i hi
  have ec : ∀ o, o ≤ tk_np (k i) (v i) → tr_ca z' i o = tr_ca z i o := fun o ho => tr_ca_congr hz i o (fun o' ho' => (b o' (by omega)).1)
  unfold tr_N
  rw [hk i hi, hv i hi]
  refine ⟨a, ⟨s, (hz i hi).trans es, s1, s2, (ec _ (Nat.le_refl _)).trans s3⟩, fun o ho => ?_, fun z => ?_⟩
  · have hn := tk_np_le a
    obtain ⟨b1, b2, b3, b4⟩ := b o ho
    rw [ec o (by omega)]
    exact ⟨b1, hb _ (by omega) _ b1 b2, hu _ b1 _ hi b3, by rw [hk _ b1]; exact b4⟩
  · obtain ⟨p, t, e, hp, hn⟩ := c z
    exact ⟨p, t, hu i hi p (by omega) e, hp, tr_NL_congr hk hv hu (by omega) hn⟩
section
variable {L : Nat} {k v z u bl : Nat → Int32}
theorem tr_sz (h : tr_T L k v z u bl) {i : Nat} (hi : i < L) : ∃ s, z i = nI s ∧ 1 ≤ s ∧ i + s ≤ L ∧ tr_ca z i (tk_np (k i) (v i)) = i + s ∧ (z i).toNatClampNeg = s := by
  obtain ⟨s, e, a, b, c⟩ := (h.2.2.2 i hi).2.1
  exact ⟨s, e, a, b, c, by rw [e]; exact nI_clamp (by have := h.2.1; omega)⟩
theorem tr_ca_s (h : tr_T L k v z u bl) {i : Nat} (hi : i < L) {o : Nat} (ho : o < tk_np (k i) (v i)) : ∃ s, z (tr_ca z i o) = nI s ∧ 1 ≤ s ∧ tr_ca z i o + s ≤ L ∧ tr_ca z i (o + 1) = tr_ca z i o + s ∧ (z (tr_ca z i o)).toNatClampNeg = s := by
  obtain ⟨s, e, a, b, c, d⟩ := tr_sz h ((h.2.2.2 i hi).2.2.1 o ho).1
  exact ⟨s, e, a, b, by show _ + _ = _; rw [d], d⟩
theorem tr_ca_lt (h : tr_T L k v z u bl) {i : Nat} (hi : i < L) {o o' : Nat} (hoo : o < o') (ho : o' ≤ tk_np (k i) (v i)) : tr_ca z i o < tr_ca z i o' := by
  induction o' with
  | zero => omega
  | succ m ih =>
    obtain ⟨s, _, s1, _, e, _⟩ := tr_ca_s h hi (o := m) (by omega)
    rw [e]
    by_cases hm : o = m
    · subst hm; omega
    · have := ih (by omega) (by omega); omega
theorem tr_ca_le (h : tr_T L k v z u bl) {i : Nat} (hi : i < L) {o o' : Nat} (hoo : o ≤ o') (ho : o' ≤ tk_np (k i) (v i)) : tr_ca z i o ≤ tr_ca z i o' := by
  by_cases e : o = o'
  · subst e; exact Nat.le_refl _
  · exact Nat.le_of_lt (tr_ca_lt h hi (by omega) ho)
theorem tr_ca_gt (h : tr_T L k v z u bl) {i : Nat} (hi : i < L) {o : Nat} (ho : o ≤ tk_np (k i) (v i)) : i < tr_ca z i o := by
  have := tr_ca_le h hi (Nat.zero_le o) ho
  have e : tr_ca z i 0 = i + 1 := rfl
  omega
end
end
section
/-- the codes of n parts of token i, from part o on -/
def ps_ch (i : Nat) : Nat → Nat → List Nat
  | _, 0 => []
  | o, n + 1 => (4 * i + o) :: ps_ch i (o + 1) n
/-- the places that are still wanting ahead of token i; 4000 is the root's -/
def ps_st (k v : Nat → Int32) : Nat → List Nat
  | 0 => [4000]
  | i + 1 => ps_ch i 0 (tk_np (k i) (v i)) ++ (ps_st k v i).tail
def ps_wn (k v : Nat → Int32) (x : Nat) : Nat := if x = 4000 then 1 else tk_wt (k (x / 4)) (v (x / 4)) (x % 4)
/-- the first i tokens fit -/
def ps_ok (k v : Nat → Int32) (i : Nat) : Prop := ∀ j, j < i → ∃ x xs, ps_st k v j = x :: xs ∧ tk_so (k j) = ps_wn k v x
def ps_nd : List Nat → Prop
  | [] => True
  | x :: xs => ¬ x ∈ xs ∧ ps_nd xs
theorem ps_ch_mem {i x : Nat} : ∀ n o, x ∈ ps_ch i o n → ∃ q, o ≤ q ∧ q < o + n ∧ x = 4 * i + q := by
  intro n
  induction n with
  | zero => intro o h; cases h
  | succ n ih =>
    intro o h
    rcases List.mem_cons.mp h with e | h
    · exact ⟨o, by omega, by omega, e⟩
    · obtain ⟨q, a, b, c⟩ := ih (o + 1) h
      exact ⟨q, by omega, by omega, c⟩
theorem ps_ch_len {i : Nat} : ∀ n o, (ps_ch i o n).length = n := by
  intro n
  induction n with
  | zero => intro o; rfl
  | succ n ih => intro o; show _ + 1 = _; rw [ih]
theorem ps_nd_ch {i : Nat} {l : List Nat} (hl : ps_nd l) (hm : ∀ y, y ∈ l → y < 4 * i ∨ 4 * i + 4 ≤ y) : ∀ n o, o + n ≤ 4 → ps_nd (ps_ch i o n ++ l) := by
  intro n
  induction n with
  | zero => intro o _; exact hl
  | succ n ih =>
    intro o h
    refine ⟨fun z => ?_, ih (o + 1) (by omega)⟩
    rcases List.mem_append.mp z with z | z
    · obtain ⟨q, a, b, c⟩ := ps_ch_mem n (o + 1) z
      omega
    · have := hm _ z
      omega
section
variable {k v : Nat → Int32} {L : Nat}
theorem ps_mem (i : Nat) : ∀ x, x ∈ ps_st k v i → x = 4000 ∨ ∃ p o, x = 4 * p + o ∧ p < i ∧ o < tk_np (k p) (v p) := by
  induction i with
  | zero => intro x h; exact Or.inl (List.mem_singleton.mp h)
  | succ i ih =>
    intro x h
    rcases List.mem_append.mp h with h | h
    · obtain ⟨q, a, b, c⟩ := ps_ch_mem _ _ h
      exact Or.inr ⟨i, q, c, by omega, by omega⟩
    · rcases ih x (List.mem_of_mem_tail h) with e | ⟨p, o, a, b, c⟩
      · exact Or.inl e
      · exact Or.inr ⟨p, o, a, by omega, c⟩
theorem ps_nd_tl {l : List Nat} (h : ps_nd l) : ps_nd l.tail := by
  cases l with
  | nil => trivial
  | cons x xs => exact h.2
theorem ps_lt (H : ∀ i, i < L → tk_ok (k i) (v i)) (i : Nat) (hi : i ≤ L) (x : Nat) (h : x ∈ ps_st k v i) : x = 4000 ∨ x < 4 * i := by
  rcases ps_mem i x h with e | ⟨p, o, a, b, c⟩
  · exact Or.inl e
  · have := tk_np_le (H p (by omega))
    exact Or.inr (by omega)
theorem ps_nodup (H : ∀ i, i < L → tk_ok (k i) (v i)) (hL : L ≤ 40) : ∀ i, i ≤ L → ps_nd (ps_st k v i) := by
  intro i
  induction i with
  | zero => intro _; exact ⟨fun z => (List.not_mem_nil z), trivial⟩
  | succ i ih =>
    intro hi
    refine ps_nd_ch (ps_nd_tl (ih (by omega))) (fun y hy => ?_) _ _ (by have := tk_np_le (H i (by omega)); omega)
    rcases ps_lt H i (by omega) y (List.mem_of_mem_tail hy) with e | e <;> omega
/-- what was taken off never comes again -/
theorem ps_gone (H : ∀ i, i < L → tk_ok (k i) (v i)) (hL : L ≤ 40) {j x : Nat} {xs : List Nat} (e : ps_st k v j = x :: xs) : ∀ i, j < i → i ≤ L → ¬ x ∈ ps_st k v i := by
  intro i
  induction i with
  | zero => intro h; omega
  | succ i ih =>
    intro h hi z
    have hx := ps_lt H j (by omega) x (by rw [e]; exact List.mem_cons_self ..)
    rcases List.mem_append.mp z with z | z
    · obtain ⟨q, a, b, c⟩ := ps_ch_mem _ _ z
      have := tk_np_le (H i (by omega))
      omega
    · by_cases hj : i = j
      · subst hj
        have hn := ps_nodup H hL i (by omega)
        rw [e] at z hn
        exact hn.1 z
      · exact ih (by omega) (by omega) (List.mem_of_mem_tail z)
theorem ps_once (H : ∀ i, i < L → tk_ok (k i) (v i)) (hL : L ≤ 40) {i j x : Nat} {xs ys : List Nat} (hi : i ≤ L) (hj : j ≤ L) (e : ps_st k v j = x :: xs) (e' : ps_st k v i = x :: ys) : i = j := by
  rcases Nat.lt_trichotomy i j with h | h | h
  · exact (ps_gone H hL e' j h hj (by rw [e]; exact List.mem_cons_self ..)).elim
  · exact h
  · exact (ps_gone H hL e i h hi (by rw [e']; exact List.mem_cons_self ..)).elim
theorem ps_len (H : ∀ i, i < L → tk_ok (k i) (v i)) : ∀ i, i ≤ L → ps_ok k v i → (ps_st k v i).length ≤ 1 + 3 * i := by
  intro i
  induction i with
  | zero => intro _ _; exact Nat.le_refl _
  | succ i ih =>
    intro hi hne
    have a := ih (by omega) (fun j hj => hne j (by omega))
    have b := tk_np_le (H i (by omega))
    obtain ⟨x, xs, e, _⟩ := hne i (by omega)
    show (ps_ch i 0 _ ++ (ps_st k v i).tail).length ≤ _
    rw [List.length_append, ps_ch_len, List.length_tail]
    rw [e] at a ⊢
    have : (x :: xs).length = xs.length + 1 := rfl
    omega
/-- token j's size is told right -/
def ps_gd (L : Nat) (k v z : Nat → Int32) (j : Nat) : Prop := ∃ s, 1 ≤ s ∧ j + s ≤ L ∧ z j = nI s ∧ ps_st k v (j + s) = (ps_st k v j).tail ∧ tr_ca z j (tk_np (k j) (v j)) = j + s
theorem ps_child (hL : L ≤ 40) (hE : ps_st k v L = []) {z : Nat → Int32} {i : Nat} (hi : i < L) (G : ∀ j, i < j → j < L → ps_gd L k v z j) : ∀ o, o ≤ tk_np (k i) (v i) → i < tr_ca z i o ∧ tr_ca z i o ≤ L ∧ ps_st k v (tr_ca z i o) = ps_ch i o (tk_np (k i) (v i) - o) ++ (ps_st k v i).tail ∧ (o < tk_np (k i) (v i) → tr_ca z i o < L) := by
  intro o
  induction o with
  | zero =>
    intro _
    have e : ps_st k v (i + 1) = ps_ch i 0 (tk_np (k i) (v i)) ++ (ps_st k v i).tail := rfl
    refine ⟨Nat.lt_succ_self i, hi, e, fun h => ?_⟩
    show i + 1 < L
    by_cases hh : i + 1 = L
    · rw [hh, hE] at e
      generalize tk_np (k i) (v i) = n at *
      cases n with
      | zero => omega
      | succ n => cases e
    · omega
  | succ o ih =>
    intro ho
    obtain ⟨a0, a, b, c⟩ := ih (by omega)
    have hlt := c (by omega)
    obtain ⟨s, s1, s2, s3, s4, s5⟩ := G _ a0 hlt
    have ec : tr_ca z i (o + 1) = tr_ca z i o + s := by
      show _ + _ = _
      rw [s3, nI_clamp (by omega)]
    obtain ⟨m, em⟩ : ∃ m, tk_np (k i) (v i) - o = m + 1 := ⟨tk_np (k i) (v i) - o - 1, by omega⟩
    have e2 : ps_st k v (tr_ca z i o + s) = ps_ch i (o + 1) (tk_np (k i) (v i) - (o + 1)) ++ (ps_st k v i).tail := by
      rw [s4, b, em, show tk_np (k i) (v i) - (o + 1) = m from by omega]
      rfl
    rw [ec]
    refine ⟨by omega, s2, e2, fun h => ?_⟩
    by_cases hh : tr_ca z i o + s = L
    · rw [hh, hE] at e2
      obtain ⟨m, em⟩ : ∃ m, tk_np (k i) (v i) - (o + 1) = m + 1 := ⟨tk_np (k i) (v i) - (o + 1) - 1, by omega⟩
      rw [em] at e2
      cases e2
    · omega
/-- a token's size, told by the sizes behind it -/
theorem ps_gd_new (hL : L ≤ 40) (hE : ps_st k v L = []) {z : Nat → Int32} {i : Nat} (hi : i < L) (G : ∀ j, i < j → j < L → ps_gd L k v z j) (hz : z i = nI (tr_ca z i (tk_np (k i) (v i)) - i)) : ps_gd L k v z i := by
  obtain ⟨a, b, c, _⟩ := ps_child hL hE hi G _ (Nat.le_refl _)
  refine ⟨tr_ca z i (tk_np (k i) (v i)) - i, by omega, by omega, hz, ?_, by omega⟩
  rw [show i + (tr_ca z i (tk_np (k i) (v i)) - i) = tr_ca z i (tk_np (k i) (v i)) from by omega, c, Nat.sub_self]
  rfl
/-- what Y's parse has written of token j -/
def ps_y (k v u bl : Nat → Int32) (j : Nat) : Prop := ∀ x xs, ps_st k v j = x :: xs → (x = 4000 → u j = -1) ∧ (x ≠ 4000 → u j = nI (x / 4) ∧ bl x = nI j)
variable {z u bl : Nat → Int32}
theorem ps_hd (H : ∀ i, i < L → tk_ok (k i) (v i)) (hL : L ≤ 40) (hE : ps_st k v L = []) (G : ∀ j, j < L → ps_gd L k v z j) {i o : Nat} (hi : i < L) (ho : o < tk_np (k i) (v i)) : tr_ca z i o < L ∧ ∃ xs, ps_st k v (tr_ca z i o) = (4 * i + o) :: xs := by
  obtain ⟨a0, a, b, c⟩ := ps_child hL hE hi (fun j _ hj => G j hj) o (by omega)
  refine ⟨c ho, ?_⟩
  obtain ⟨m, em⟩ : ∃ m, tk_np (k i) (v i) - o = m + 1 := ⟨tk_np (k i) (v i) - o - 1, by omega⟩
  rw [b, em]
  exact ⟨_, rfl⟩
/-- each token but the first is a part of its parent -/
theorem ps_par (H : ∀ i, i < L → tk_ok (k i) (v i)) (hL : L ≤ 40) (hE : ps_st k v L = []) (hok : ps_ok k v L) (G : ∀ j, j < L → ps_gd L k v z j) (hy : ∀ j, j < L → ps_y k v u bl j) {i : Nat} (h0 : 0 < i) (hi : i < L) : ∃ p o, p < i ∧ o < tk_np (k p) (v p) ∧ i = tr_ca z p o ∧ u i = nI p := by
  obtain ⟨x, xs, e, _⟩ := hok i hi
  rcases ps_mem i x (by rw [e]; exact List.mem_cons_self ..) with rfl | ⟨p, o, rfl, hp, ho⟩
  · have := ps_once H hL (j := 0) (i := i) (x := 4000) (xs := []) (by omega) (by omega) rfl e
    omega
  · have hn := tk_np_le (H p (by omega))
    obtain ⟨a, ys, e'⟩ := ps_hd H hL hE G (by omega) ho
    have := ps_once H hL (by omega) (by omega) e' e
    refine ⟨p, o, hp, ho, this, ?_⟩
    have := ((hy i hi) _ _ e).2 (by omega)
    rw [this.1]
    exact congrArg nI (by omega)
theorem ps_s (G : ∀ j, j < L → ps_gd L k v z j) (hL : L ≤ 40) {j : Nat} (hj : j < L) : tr_ca z j (tk_np (k j) (v j)) = j + (z j).toNatClampNeg ∧ 1 ≤ (z j).toNatClampNeg ∧ j + (z j).toNatClampNeg ≤ L := by
  obtain ⟨s, s1, s2, s3, s4, s5⟩ := G j hj
  rw [s3, nI_clamp (by omega)]
  exact ⟨s5, s1, s2⟩
theorem ps_mono (hL : L ≤ 40) (hE : ps_st k v L = []) (G : ∀ j, j < L → ps_gd L k v z j) {i : Nat} (hi : i < L) : ∀ o', o' ≤ tk_np (k i) (v i) → ∀ o, o ≤ o' → tr_ca z i o ≤ tr_ca z i o' := by
  intro o'
  induction o' with
  | zero => intro _ o ho; rw [show o = 0 from by omega]; exact Nat.le_refl _
  | succ m ih =>
    intro hm o ho
    by_cases e : o = m + 1
    · subst e; exact Nat.le_refl _
    · have := ih (by omega) o (by omega)
      show _ ≤ _ + _
      omega
/-- i lies in one of the parts of j -/
theorem ps_find (hL : L ≤ 40) (hE : ps_st k v L = []) (G : ∀ j, j < L → ps_gd L k v z j) {i j : Nat} (hj : j < L) (h1 : j < i) : ∀ n, n ≤ tk_np (k j) (v j) → i < tr_ca z j n → ∃ o, o < n ∧ tr_ca z j o ≤ i ∧ i < tr_ca z j (o + 1) := by
  intro n
  induction n with
  | zero => intro _ h; have : tr_ca z j 0 = j + 1 := rfl; omega
  | succ n ih =>
    intro hn h
    by_cases hh : i < tr_ca z j n
    · obtain ⟨o, a, b⟩ := ih (by omega) hh
      exact ⟨o, by omega, b⟩
    · exact ⟨n, by omega, by omega, h⟩
/-- n + 1 times up from i is j -/
def ps_R (u : Nat → Int32) : Nat → Nat → Nat → Prop
  | 0, i, j => i = j
  | n + 1, i, j => ∃ q, u i = nI q ∧ q < i ∧ ps_R u n q j
theorem ps_R_app {u : Nat → Int32} {j c : Nat} (e : u c = nI j) (h : j < c) : ∀ n i, ps_R u n i c → ps_R u (n + 1) i j := by
  intro n
  induction n with
  | zero => intro i hr; cases hr; exact ⟨j, e, h, rfl⟩
  | succ n ih =>
    intro i hr
    obtain ⟨q, a, b, c⟩ := hr
    exact ⟨q, a, b, ih q c⟩
theorem ps_in (H : ∀ i, i < L → tk_ok (k i) (v i)) (hL : L ≤ 40) (hE : ps_st k v L = []) (G : ∀ j, j < L → ps_gd L k v z j) (hy : ∀ j, j < L → ps_y k v u bl j) : ∀ d i j, i - j ≤ d → j < i → i < L → i < j + (z j).toNatClampNeg → ∃ n, ps_R u (n + 1) i j := by
  intro d
  induction d with
  | zero => intro i j h h1; omega
  | succ d ih =>
    intro i j hd h1 hi h2
    have hs := ps_s G hL (show j < L from by omega)
    obtain ⟨o, ho, a, b⟩ := ps_find hL hE G (by omega) h1 _ (Nat.le_refl _) (by omega)
    obtain ⟨c1, ys, e'⟩ := ps_hd H hL hE G (by omega) ho
    have hn := tk_np_le (H j (by omega))
    have eu : u (tr_ca z j o) = nI j := by
      have := ((hy _ c1) _ _ e').2 (by omega)
      rw [this.1]
      exact congrArg nI (by omega)
    have hgt := (ps_child (i := j) hL hE (by omega) (fun j _ hj => G j hj) o (by omega)).1
    by_cases hh : tr_ca z j o = i
    · exact ⟨0, j, by rw [← hh]; exact eu, h1, rfl⟩
    · obtain ⟨n, hr⟩ := ih i (tr_ca z j o) (by omega) (by omega) hi b
      exact ⟨n + 1, ps_R_app eu hgt (n + 1) i hr⟩
theorem ps_R_NL {lab : Int32} {j : Nat} (hm : tr_m k v lab j) : ∀ n p, ps_R u n p j → ∃ t, tr_NL k v u lab p t := by
  intro n
  induction n with
  | zero => intro p h; cases h; exact ⟨_, tr_NL_m hm⟩
  | succ n ih =>
    intro p h
    obtain ⟨q, a, b, c⟩ := h
    by_cases hp : tr_m k v lab p
    · exact ⟨p, tr_NL_m hp⟩
    · obtain ⟨t, ht⟩ := ih q c
      exact ⟨t, tr_NL_p hp a b ht⟩
theorem ps_chain (H : ∀ i, i < L → tk_ok (k i) (v i)) (hL : L ≤ 40) (hE : ps_st k v L = []) (hok : ps_ok k v L) (G : ∀ j, j < L → ps_gd L k v z j) (hy : ∀ j, j < L → ps_y k v u bl j) {lab : Int32} : ∀ n p t, p < L → tr_nl k v u lab n p t → t ≤ p ∧ p + (z p).toNatClampNeg ≤ t + (z t).toNatClampNeg ∧ tr_m k v lab t := by
  intro n
  induction n with
  | zero => intro p t _ h; exact h.elim
  | succ n ih =>
    intro p t hp h
    rcases h with ⟨hm, rfl⟩ | ⟨_, q, eq, hq, h⟩
    · exact ⟨Nat.le_refl _, Nat.le_refl _, hm⟩
    · obtain ⟨a, b, c⟩ := ih q t (by omega) h
      obtain ⟨q', o, hq', ho, e1, e2⟩ := ps_par H hL hE hok G hy (show 0 < p from by omega) hp
      have : q = q' := (nI_eq (by omega) (by omega)).mp (eq.symm.trans e2)
      subst this
      have hs := ps_s G hL (show q < L from by omega)
      have hm := ps_mono hL hE G (show q < L from by omega) _ (Nat.le_refl _) (o + 1) (by omega)
      have e3 : tr_ca z q (o + 1) = tr_ca z q o + (z (tr_ca z q o)).toNatClampNeg := rfl
      rw [← e1] at e3
      exact ⟨by omega, by omega, c⟩
/-- X's look over the intervals and Y's way up say the same -/
theorem ps_bound (H : ∀ i, i < L → tk_ok (k i) (v i)) (hL : L ≤ 40) (hE : ps_st k v L = []) (hok : ps_ok k v L) (G : ∀ j, j < L → ps_gd L k v z j) (hy : ∀ j, j < L → ps_y k v u bl j) {lab : Int32} {i : Nat} (hi : i < L) : (∃ j, j < i ∧ i < j + (z j).toNatClampNeg ∧ tr_m k v lab j) ↔ ∃ p t, u i = nI p ∧ p < i ∧ tr_NL k v u lab p t := by
  constructor
  · rintro ⟨j, h1, h2, hm⟩
    obtain ⟨n, p, a, b, c⟩ := ps_in H hL hE G hy (i - j) i j (Nat.le_refl _) h1 hi h2
    obtain ⟨t, ht⟩ := ps_R_NL hm n p c
    exact ⟨p, t, a, b, ht⟩
  · rintro ⟨p, t, e, hp, n, hn⟩
    obtain ⟨a, b, c⟩ := ps_chain H hL hE hok G hy n p t (by omega) hn
    obtain ⟨q', o, hq', ho, e1, e2⟩ := ps_par H hL hE hok G hy (show 0 < i from by omega) hi
    have : p = q' := (nI_eq (by omega) (by omega)).mp (e.symm.trans e2)
    subst this
    have hs := ps_s G hL (show p < L from by omega)
    have hm := ps_mono hL hE G (show p < L from by omega) _ (Nat.le_refl _) (o + 1) (by omega)
    have e3 : tr_ca z p (o + 1) = tr_ca z p o + (z (tr_ca z p o)).toNatClampNeg := rfl
    rw [← e1] at e3
    have hs2 := ps_s G hL hi
    exact ⟨t, by omega, by omega, c⟩
/-- the body that was parsed, measured and found bound is good -/
theorem ps_T (H : ∀ i, i < L → tk_ok (k i) (v i)) (hL1 : 1 ≤ L) (hL : L ≤ 40) (hE : ps_st k v L = []) (hok : ps_ok k v L) (G : ∀ j, j < L → ps_gd L k v z j) (hy : ∀ j, j < L → ps_y k v u bl j) (hb : ∀ i, i < L → (k i = 19 ∨ k i = 20) → ∃ p t, u i = nI p ∧ p < i ∧ tr_NL k v u (v i) p t) : tr_T L k v z u bl := by
  refine ⟨hL1, hL, ?_, fun i hi => ⟨H i hi, ?_, fun o ho => ?_, hb i hi⟩⟩
  · obtain ⟨x, xs, e, e2⟩ := hok 0 (by omega)
    have : x = 4000 := (List.cons.inj e).1.symm
    subst this
    rw [e2]
    rfl
  · obtain ⟨s, s1, s2, s3, s4, s5⟩ := G i hi
    exact ⟨s, s3, s1, s2, s5⟩
  · obtain ⟨c1, ys, e'⟩ := ps_hd H hL hE G hi ho
    have hn := tk_np_le (H i hi)
    have h1 := ((hy _ c1) _ _ e').2 (by omega)
    obtain ⟨x, xs, e, e2⟩ := hok _ c1
    have : x = 4 * i + o := (List.cons.inj (e.symm.trans e')).1
    subst this
    refine ⟨c1, h1.2, ?_, ?_⟩
    · rw [h1.1]; exact congrArg nI (by omega)
    · rw [e2]
      unfold ps_wn
      rw [if_neg (by omega), show (4 * i + o) / 4 = i from by omega, show (4 * i + o) % 4 = o from by omega]
end
end
section
section
variable {f_expectedCount f_draftLength f_latestPlace f_entryCount f_working f_ending f_endNote f_endValue f_sayCount f_stepCount f_tooLong f_latestResult f_latestKind : Int32} {a_tokenKind a_tokenValue a_tokenSize a_hasBody a_expected a_entryToken a_entryPhase a_keptEnding a_keptNote a_keptValue a_variables a_output : Nat → Int32} {post : Int32 → Prop}
theorem qx_isF {j : Nat} (hj : j < 4) (h : post 1) : wpX_isFunction post (f_expectedCount, f_draftLength, f_latestPlace, f_entryCount, f_working, f_ending, f_endNote, f_endValue, f_sayCount, f_stepCount, f_tooLong, f_latestResult, f_latestKind, a_tokenKind, a_tokenValue, a_tokenSize, a_hasBody, a_expected, a_entryToken, a_entryPhase, a_keptEnding, a_keptNote, a_keptValue, a_variables, a_output) (nI j) := by
  unfold wpX_isFunction
  exact br_f (nI_pos (by omega)) (br_f (nI_ge (b := 4) hj (by decide)) ⟨qb_nr1, h⟩)
theorem qx_isN {x : Int32} (hx : x < 0 ∨ (¬ x < 0 ∧ nI 4 ≤ x)) (h : post 0) : wpX_isFunction post (f_expectedCount, f_draftLength, f_latestPlace, f_entryCount, f_working, f_ending, f_endNote, f_endValue, f_sayCount, f_stepCount, f_tooLong, f_latestResult, f_latestKind, a_tokenKind, a_tokenValue, a_tokenSize, a_hasBody, a_expected, a_entryToken, a_entryPhase, a_keptEnding, a_keptNote, a_keptValue, a_variables, a_output) x := by
  unfold wpX_isFunction
  rcases hx with hx | ⟨hx, hy⟩
  · exact br_t hx ⟨qb_nr0, h⟩
  · exact br_f hx (br_t hy ⟨qb_nr0, h⟩)
theorem qx_sort {k v : Int32} (hk : tk_ok k v) (h : post (nI (tk_so k + 1))) : wpX_sortOf post (f_expectedCount, f_draftLength, f_latestPlace, f_entryCount, f_working, f_ending, f_endNote, f_endValue, f_sayCount, f_stepCount, f_tooLong, f_latestResult, f_latestKind, a_tokenKind, a_tokenValue, a_tokenSize, a_hasBody, a_expected, a_entryToken, a_entryPhase, a_keptEnding, a_keptNote, a_keptValue, a_variables, a_output) k := by
  rcases tk_kinds hk with rfl | rfl | rfl | rfl | rfl | rfl | rfl | rfl | rfl | rfl | rfl | rfl | rfl | rfl | rfl | rfl | rfl | rfl | rfl | rfl | rfl
  all_goals (repeat (first | refine br_t (by decide) ?_ | refine br_f (by decide) ?_)); exact (congrArg post (by decide)).mpr h
theorem qx_finT {v : Int32} (hk : tk_ok 17 v) (h : post (nI (tk_fn v))) : wpX_finallyIn post (f_expectedCount, f_draftLength, f_latestPlace, f_entryCount, f_working, f_ending, f_endNote, f_endValue, f_sayCount, f_stepCount, f_tooLong, f_latestResult, f_latestKind, a_tokenKind, a_tokenValue, a_tokenSize, a_hasBody, a_expected, a_entryToken, a_entryPhase, a_keptEnding, a_keptNote, a_keptValue, a_variables, a_output) 17 v := by
  refine br_t rfl ?_
  rcases tk_try hk with rfl | rfl | rfl | rfl | rfl
  all_goals exact (congrArg post (by decide)).mpr h
theorem qx_catT {v : Int32} (hk : tk_ok 17 v) (h : post (nI (tk_cn v))) : wpX_catchesIn post (f_expectedCount, f_draftLength, f_latestPlace, f_entryCount, f_working, f_ending, f_endNote, f_endValue, f_sayCount, f_stepCount, f_tooLong, f_latestResult, f_latestKind, a_tokenKind, a_tokenValue, a_tokenSize, a_hasBody, a_expected, a_entryToken, a_entryPhase, a_keptEnding, a_keptNote, a_keptValue, a_variables, a_output) 17 v := by
  refine br_t rfl ?_
  rcases tk_try hk with rfl | rfl | rfl | rfl | rfl
  all_goals exact (congrArg post (by decide)).mpr h
/-- the expressions, the statements ahead of any catch -/
def tk_xn (k : Int32) : Nat := if k = 2 ∨ k = 3 ∨ k = 4 ∨ k = 5 ∨ k = 6 then 2 else if k = 7 ∨ k = 8 ∨ k = 10 ∨ k = 11 ∨ k = 12 ∨ k = 13 ∨ k = 16 ∨ k = 21 then 1 else 0
def tk_sn (k : Int32) : Nat := if k = 12 ∨ k = 14 then 2 else if k = 13 ∨ k = 17 ∨ k = 18 then 1 else 0
def tk_c (k v : Int32) : Nat := if k = 17 then tk_cn v else 0
def tk_f (k v : Int32) : Nat := if k = 17 then tk_fn v else 0
theorem tk_np_sum {k v : Int32} (hk : tk_ok k v) : tk_np k v = tk_xn k + tk_sn k + tk_c k v + tk_f k v := by
  rcases tk_kinds hk with rfl | rfl | rfl | rfl | rfl | rfl | rfl | rfl | rfl | rfl | rfl | rfl | rfl | rfl | rfl | rfl | rfl | rfl | rfl | rfl | rfl
  all_goals first | rfl | (rcases tk_try hk with rfl | rfl | rfl | rfl | rfl <;> decide)
theorem qx_expr {k v : Int32} (hk : tk_ok k v) (h : post (nI (tk_xn k))) : wpX_expressionsIn post (f_expectedCount, f_draftLength, f_latestPlace, f_entryCount, f_working, f_ending, f_endNote, f_endValue, f_sayCount, f_stepCount, f_tooLong, f_latestResult, f_latestKind, a_tokenKind, a_tokenValue, a_tokenSize, a_hasBody, a_expected, a_entryToken, a_entryPhase, a_keptEnding, a_keptNote, a_keptValue, a_variables, a_output) k := by
  rcases tk_kinds hk with rfl | rfl | rfl | rfl | rfl | rfl | rfl | rfl | rfl | rfl | rfl | rfl | rfl | rfl | rfl | rfl | rfl | rfl | rfl | rfl | rfl
  all_goals (repeat (first | refine br_t (by decide) ?_ | refine br_f (by decide) ?_)); exact (congrArg post (by decide)).mpr h
theorem qx_stat {k v : Int32} (hk : tk_ok k v) (h : post (nI (tk_sn k))) : wpX_statementsIn post (f_expectedCount, f_draftLength, f_latestPlace, f_entryCount, f_working, f_ending, f_endNote, f_endValue, f_sayCount, f_stepCount, f_tooLong, f_latestResult, f_latestKind, a_tokenKind, a_tokenValue, a_tokenSize, a_hasBody, a_expected, a_entryToken, a_entryPhase, a_keptEnding, a_keptNote, a_keptValue, a_variables, a_output) k := by
  rcases tk_kinds hk with rfl | rfl | rfl | rfl | rfl | rfl | rfl | rfl | rfl | rfl | rfl | rfl | rfl | rfl | rfl | rfl | rfl | rfl | rfl | rfl | rfl
  all_goals (repeat (first | refine br_t (by decide) ?_ | refine br_f (by decide) ?_)); exact (congrArg post (by decide)).mpr h
theorem qx_fin {k v : Int32} (hk : tk_ok k v) (h : post (nI (tk_f k v))) : wpX_finallyIn post (f_expectedCount, f_draftLength, f_latestPlace, f_entryCount, f_working, f_ending, f_endNote, f_endValue, f_sayCount, f_stepCount, f_tooLong, f_latestResult, f_latestKind, a_tokenKind, a_tokenValue, a_tokenSize, a_hasBody, a_expected, a_entryToken, a_entryPhase, a_keptEnding, a_keptNote, a_keptValue, a_variables, a_output) k v := by
  by_cases e : k = 17
  · subst e
    exact qx_finT hk h
  · refine br_f e ?_
    rw [tk_f, if_neg e] at h
    exact h
theorem qx_cat {k v : Int32} (hk : tk_ok k v) (h : post (nI (tk_c k v))) : wpX_catchesIn post (f_expectedCount, f_draftLength, f_latestPlace, f_entryCount, f_working, f_ending, f_endNote, f_endValue, f_sayCount, f_stepCount, f_tooLong, f_latestResult, f_latestKind, a_tokenKind, a_tokenValue, a_tokenSize, a_hasBody, a_expected, a_entryToken, a_entryPhase, a_keptEnding, a_keptNote, a_keptValue, a_variables, a_output) k v := by
  by_cases e : k = 17
  · subst e
    exact qx_catT hk h
  · refine br_f e ?_
    rw [tk_c, if_neg e] at h
    exact h
theorem qx_parts {j : Nat} (hj : j < 200) (hk : tk_ok (a_tokenKind j) (a_tokenValue j)) (h : post (nI (tk_np (a_tokenKind j) (a_tokenValue j)))) : wpX_partsIn post (f_expectedCount, f_draftLength, f_latestPlace, f_entryCount, f_working, f_ending, f_endNote, f_endValue, f_sayCount, f_stepCount, f_tooLong, f_latestResult, f_latestKind, a_tokenKind, a_tokenValue, a_tokenSize, a_hasBody, a_expected, a_entryToken, a_entryPhase, a_keptEnding, a_keptNote, a_keptValue, a_variables, a_output) (nI j) := by
  have ej : (nI j).toNatClampNeg = j := nI_clamp (by omega)
  refine ⟨vp_in_nI hj (by decide), nm_r (by rw [ej]) ⟨vp_in_nI hj (by decide), nm_r (by rw [ej]) ?_⟩⟩
  refine qx_expr hk (qx_stat hk (qx_cat hk (qx_fin hk ?_)))
  rw [nI_add, nI_add, nI_add, ← tk_np_sum hk]
  exact h
theorem qx_partAt {b i o : Nat} (H : ∀ q, q < o → ∃ s, b + tr_ca (fun i => a_tokenSize (b + i)) i q < 200 ∧ a_tokenSize (b + tr_ca (fun i => a_tokenSize (b + i)) i q) = nI s ∧ s ≤ 200) (ho : o < 1000) (h : post (nI (b + tr_ca (fun i => a_tokenSize (b + i)) i o))) : wpX_partAt post (f_expectedCount, f_draftLength, f_latestPlace, f_entryCount, f_working, f_ending, f_endNote, f_endValue, f_sayCount, f_stepCount, f_tooLong, f_latestResult, f_latestKind, a_tokenKind, a_tokenValue, a_tokenSize, a_hasBody, a_expected, a_entryToken, a_entryPhase, a_keptEnding, a_keptNote, a_keptValue, a_variables, a_output) (nI (b + i)) (nI o) := by
  have L : ∀ d q, q + d = o → wX_partAt_7 post (nI o) f_expectedCount f_draftLength f_latestPlace f_entryCount f_working f_ending f_endNote f_endValue f_sayCount f_stepCount f_tooLong f_latestResult f_latestKind a_tokenKind a_tokenValue a_tokenSize a_hasBody a_expected a_entryToken a_entryPhase a_keptEnding a_keptNote a_keptValue a_variables a_output (d + 1) (nI (b + tr_ca (fun i => a_tokenSize (b + i)) i q)) (nI q) := by
    intro d
    induction d with
    | zero =>
      intro q hq
      have : q = o := by omega
      subst this
      exact br_t (nI_le (Nat.le_refl _) (by omega)) h
    | succ d ih =>
      intro q hq
      obtain ⟨s, h1, h2, h3⟩ := H q (by omega)
      refine br_f (nI_ge (by omega) (by omega)) (br_f (nI_ge (b := 200) h1 (by decide)) ⟨vp_in_nI h1 (by decide), nm_r ?_ (nm_r (nI_1 q) (ih (q + 1) (by omega)))⟩)
      rw [nI_clamp (by omega), h2, nI_add]
      refine congrArg nI ?_
      show _ = b + (_ + (a_tokenSize _).toNatClampNeg)
      rw [h2, nI_clamp (by omega)]
      omega
  refine nm_r (e' := nI (b + tr_ca (fun i => a_tokenSize (b + i)) i 0)) (nI_1 _) ⟨o + 1, ?_⟩
  exact L o 0 (by omega)
end
section
variable {post : Int32 → Prop}
theorem qy_outF {j n : Nat} (hj : j < n) (hn : n < 2 ^ 31) (h : post 0) : wpY_out post (nI j) (nI n) := br_f (nI_pos (by omega)) (br_t (nI_lt hj hn) h)
theorem qy_outN {x : Int32} {n : Nat} (hn : n < 2 ^ 31) (hx : x < 0 ∨ (¬ x < 0 ∧ nI n ≤ x)) (h : post 1) : wpY_out post x (nI n) := by
  rcases hx with hx | ⟨hx, hy⟩
  · exact br_t hx h
  · exact br_f hx (br_f (Int32.not_lt.mpr hy) h)
theorem qy_sort {k v : Int32} (hk : tk_ok k v) (h : post (nI (tk_so k))) : wpY_sort post k := by
  rcases tk_kinds hk with rfl | rfl | rfl | rfl | rfl | rfl | rfl | rfl | rfl | rfl | rfl | rfl | rfl | rfl | rfl | rfl | rfl | rfl | rfl | rfl | rfl
  all_goals (repeat (first | refine br_t (by decide) ?_ | refine br_f (by decide) ?_)); exact (congrArg post (by decide)).mpr h
theorem qy_op {k v : Int32} (hk : tk_ok k v) (h : post (nI (tk_np k v))) : wpY_operands post k v := by
  rcases tk_kinds hk with rfl | rfl | rfl | rfl | rfl | rfl | rfl | rfl | rfl | rfl | rfl | rfl | rfl | rfl | rfl | rfl | rfl | rfl | rfl | rfl | rfl
  all_goals first | ((repeat (first | refine br_t (by decide) ?_ | refine br_f (by decide) ?_)); first | exact h | exact (congrArg post (by decide)).mpr h) | (rcases tk_try hk with rfl | rfl | rfl | rfl | rfl <;> ((repeat (first | refine br_t (by decide) ?_ | refine br_f (by decide) ?_)); first | exact h | exact (congrArg post (by decide)).mpr h))
theorem qy_want {k v : Int32} {o : Nat} (hk : tk_ok k v) (ho : o < 4) (h : post (nI (tk_wt k v o))) : wpY_wanted post k v (nI o) := by
  have : o = 0 ∨ o = 1 ∨ o = 2 ∨ o = 3 := by omega
  rcases this with rfl | rfl | rfl | rfl <;> rcases tk_kinds hk with rfl | rfl | rfl | rfl | rfl | rfl | rfl | rfl | rfl | rfl | rfl | rfl | rfl | rfl | rfl | rfl | rfl | rfl | rfl | rfl | rfl
  all_goals first | ((repeat (first | refine br_t (by decide) ?_ | refine br_f (by decide) ?_)); first | exact h | exact (congrArg post (by decide)).mpr h) | (rcases tk_try hk with rfl | rfl | rfl | rfl | rfl <;> ((repeat (first | refine br_t (by decide) ?_ | refine br_f (by decide) ?_)); first | exact h | exact (congrArg post (by decide)).mpr h))
end
end
section
theorem tk_mk_free {n : Nat} {v : Int32} (hn : n < 22) (h : n ≠ 9 ∧ n ≠ 1 ∧ n ≠ 10 ∧ n ≠ 8 ∧ n ≠ 13 ∧ n ≠ 16 ∧ n ≠ 19 ∧ n ≠ 20 ∧ n ≠ 17 ∧ n ≠ 18) : tk_ok (nI n) v := ⟨n, rfl, hn, h.1, fun z => by omega, fun z => by omega, fun z => by omega, fun z => by omega⟩
theorem tk_mk6 {n m : Nat} (hn : n = 1 ∨ n = 10) (hm : m < 6) : tk_ok (nI n) (nI m) := ⟨n, rfl, by omega, by omega, fun _ => ⟨m, hm, rfl⟩, fun z => by omega, fun z => by omega, fun z => by omega⟩
theorem tk_mk4 {n m : Nat} (hn : n = 8 ∨ n = 13 ∨ n = 16 ∨ n = 19 ∨ n = 20) (hm : m < 4) : tk_ok (nI n) (nI m) := ⟨n, rfl, by omega, by omega, fun z => by omega, fun _ => ⟨m, hm, rfl⟩, fun z => by omega, fun z => by omega⟩
theorem tk_mk17 {v : Int32} (h : v = 1 ∨ v = 2 ∨ v = 4 ∨ v = 5 ∨ v = 6) : tk_ok 17 v := ⟨17, rfl, by omega, by omega, fun z => by omega, fun z => by omega, fun _ => h, fun z => by omega⟩
theorem tk_mk18 {m : Nat} (hm : m < 48) (h : m % 8 < 5) : tk_ok 18 (nI m) := ⟨18, rfl, by omega, by omega, fun z => by omega, fun z => by omega, fun z => by omega, fun _ => ⟨m, hm, rfl, h⟩⟩
/-- Y's look at a token -/
def yc_tok (bad : Prop) (post : Int32 → Prop) (k v : Int32) : Prop := wpY_out (fun r => (r = 0 → ((k = 9 → bad) ∧ (¬ k = 9 → wpY_fits post k v))) ∧ (¬ r = 0 → bad)) k 22
def tk_say (k v : Int32) : Prop := (tk_ok k v ∧ (∀ (post : Int32 → Prop) (u : SX), post 1 → wpX_allows post u k v) ∧ (∀ (bad : Prop) (post : Int32 → Prop), post 1 → yc_tok bad post k v)) ∨ ((∀ (post : Int32 → Prop) (u : SX), post 0 → wpX_allows post u k v) ∧ (∀ (bad : Prop) (post : Int32 → Prop), bad → post 0 → yc_tok bad post k v))
section
theorem tk_say6 {n : Nat} (hn : n = 1 ∨ n = 10) (v : Int32) : tk_say (nI n) v := by
  rcases qb_fun v (n := 6) (by decide) with hv | hv | ⟨m, hm, rfl⟩
  · refine Or.inr ⟨fun post u h => ?_, fun bad post h' h => ?_⟩
    · obtain ⟨f_expectedCount, f_draftLength, f_latestPlace, f_entryCount, f_working, f_ending, f_endNote, f_endValue, f_sayCount, f_stepCount, f_tooLong, f_latestResult, f_latestKind, a_tokenKind, a_tokenValue, a_tokenSize, a_hasBody, a_expected, a_entryToken, a_entryPhase, a_keptEnding, a_keptNote, a_keptValue, a_variables, a_output⟩ := u
      rcases hn with rfl | rfl <;> (repeat (first | exact h | exact qb_nr0 | exact qb_nr1 | refine br_t (by decide) ?_ | refine br_f (by decide) ?_ | refine br_t hv ?_ | refine br_f hv ?_ | refine br_f hv.1 ?_ | refine br_t hv.2 ?_ | refine br_f hw ?_ | refine And.intro qb_nr0 ?_ | refine And.intro qb_nr1 ?_))
    · rcases hn with rfl | rfl <;> (repeat (first | exact h | exact qb_nr0 | exact qb_nr1 | refine br_t (by decide) ?_ | refine br_f (by decide) ?_ | refine br_t hv ?_ | refine br_f hv ?_ | refine br_f hv.1 ?_ | refine br_t hv.2 ?_ | refine br_f hw ?_ | refine And.intro qb_nr0 ?_ | refine And.intro qb_nr1 ?_))
  · have hw : ¬ v < 6 := Int32.not_lt.mpr hv.2
    refine Or.inr ⟨fun post u h => ?_, fun bad post h' h => ?_⟩
    · obtain ⟨f_expectedCount, f_draftLength, f_latestPlace, f_entryCount, f_working, f_ending, f_endNote, f_endValue, f_sayCount, f_stepCount, f_tooLong, f_latestResult, f_latestKind, a_tokenKind, a_tokenValue, a_tokenSize, a_hasBody, a_expected, a_entryToken, a_entryPhase, a_keptEnding, a_keptNote, a_keptValue, a_variables, a_output⟩ := u
      rcases hn with rfl | rfl <;> (repeat (first | exact h | exact qb_nr0 | exact qb_nr1 | refine br_t (by decide) ?_ | refine br_f (by decide) ?_ | refine br_t hv ?_ | refine br_f hv ?_ | refine br_f hv.1 ?_ | refine br_t hv.2 ?_ | refine br_f hw ?_ | refine And.intro qb_nr0 ?_ | refine And.intro qb_nr1 ?_))
    · rcases hn with rfl | rfl <;> (repeat (first | exact h | exact qb_nr0 | exact qb_nr1 | refine br_t (by decide) ?_ | refine br_f (by decide) ?_ | refine br_t hv ?_ | refine br_f hv ?_ | refine br_f hv.1 ?_ | refine br_t hv.2 ?_ | refine br_f hw ?_ | refine And.intro qb_nr0 ?_ | refine And.intro qb_nr1 ?_))
  · have e : m = 0 ∨ m = 1 ∨ m = 2 ∨ m = 3 ∨ m = 4 ∨ m = 5 := by omega
    refine Or.inl ⟨tk_mk6 hn hm, fun post u h => ?_, fun bad post h => ?_⟩
    · obtain ⟨f_expectedCount, f_draftLength, f_latestPlace, f_entryCount, f_working, f_ending, f_endNote, f_endValue, f_sayCount, f_stepCount, f_tooLong, f_latestResult, f_latestKind, a_tokenKind, a_tokenValue, a_tokenSize, a_hasBody, a_expected, a_entryToken, a_entryPhase, a_keptEnding, a_keptNote, a_keptValue, a_variables, a_output⟩ := u
      have hv : True := trivial
      rcases hn with rfl | rfl <;> rcases e with rfl | rfl | rfl | rfl | rfl | rfl <;> (repeat (first | exact h | exact qb_nr0 | exact qb_nr1 | refine br_t (by decide) ?_ | refine br_f (by decide) ?_ | refine br_t hv ?_ | refine br_f hv ?_ | refine br_f hv.1 ?_ | refine br_t hv.2 ?_ | refine br_f hw ?_ | refine And.intro qb_nr0 ?_ | refine And.intro qb_nr1 ?_))
    · have hv : True := trivial
      rcases hn with rfl | rfl <;> rcases e with rfl | rfl | rfl | rfl | rfl | rfl <;> (repeat (first | exact h | exact qb_nr0 | exact qb_nr1 | refine br_t (by decide) ?_ | refine br_f (by decide) ?_ | refine br_t hv ?_ | refine br_f hv ?_ | refine br_f hv.1 ?_ | refine br_t hv.2 ?_ | refine br_f hw ?_ | refine And.intro qb_nr0 ?_ | refine And.intro qb_nr1 ?_))
theorem tk_say4 {n : Nat} (hn : n = 8 ∨ n = 13 ∨ n = 16 ∨ n = 19 ∨ n = 20) (v : Int32) : tk_say (nI n) v := by
  rcases qb_fun v (n := 4) (by decide) with hv | hv | ⟨m, hm, rfl⟩
  · refine Or.inr ⟨fun post u h => ?_, fun bad post h' h => ?_⟩
    · obtain ⟨f_expectedCount, f_draftLength, f_latestPlace, f_entryCount, f_working, f_ending, f_endNote, f_endValue, f_sayCount, f_stepCount, f_tooLong, f_latestResult, f_latestKind, a_tokenKind, a_tokenValue, a_tokenSize, a_hasBody, a_expected, a_entryToken, a_entryPhase, a_keptEnding, a_keptNote, a_keptValue, a_variables, a_output⟩ := u
      rcases hn with rfl | rfl | rfl | rfl | rfl <;> (repeat (first | exact h | exact qb_nr0 | exact qb_nr1 | refine br_t (by decide) ?_ | refine br_f (by decide) ?_ | refine br_t hv ?_ | refine br_f hv ?_ | refine br_f hv.1 ?_ | refine br_t hv.2 ?_ | refine br_f hw ?_ | refine And.intro qb_nr0 ?_ | refine And.intro qb_nr1 ?_))
    · rcases hn with rfl | rfl | rfl | rfl | rfl <;> (repeat (first | exact h | exact qb_nr0 | exact qb_nr1 | refine br_t (by decide) ?_ | refine br_f (by decide) ?_ | refine br_t hv ?_ | refine br_f hv ?_ | refine br_f hv.1 ?_ | refine br_t hv.2 ?_ | refine br_f hw ?_ | refine And.intro qb_nr0 ?_ | refine And.intro qb_nr1 ?_))
  · have hw : ¬ v < 4 := Int32.not_lt.mpr hv.2
    refine Or.inr ⟨fun post u h => ?_, fun bad post h' h => ?_⟩
    · obtain ⟨f_expectedCount, f_draftLength, f_latestPlace, f_entryCount, f_working, f_ending, f_endNote, f_endValue, f_sayCount, f_stepCount, f_tooLong, f_latestResult, f_latestKind, a_tokenKind, a_tokenValue, a_tokenSize, a_hasBody, a_expected, a_entryToken, a_entryPhase, a_keptEnding, a_keptNote, a_keptValue, a_variables, a_output⟩ := u
      rcases hn with rfl | rfl | rfl | rfl | rfl <;> (repeat (first | exact h | exact qb_nr0 | exact qb_nr1 | refine br_t (by decide) ?_ | refine br_f (by decide) ?_ | refine br_t hv ?_ | refine br_f hv ?_ | refine br_f hv.1 ?_ | refine br_t hv.2 ?_ | refine br_f hw ?_ | refine And.intro qb_nr0 ?_ | refine And.intro qb_nr1 ?_))
    · rcases hn with rfl | rfl | rfl | rfl | rfl <;> (repeat (first | exact h | exact qb_nr0 | exact qb_nr1 | refine br_t (by decide) ?_ | refine br_f (by decide) ?_ | refine br_t hv ?_ | refine br_f hv ?_ | refine br_f hv.1 ?_ | refine br_t hv.2 ?_ | refine br_f hw ?_ | refine And.intro qb_nr0 ?_ | refine And.intro qb_nr1 ?_))
  · have e : m = 0 ∨ m = 1 ∨ m = 2 ∨ m = 3 := by omega
    refine Or.inl ⟨tk_mk4 hn hm, fun post u h => ?_, fun bad post h => ?_⟩
    · obtain ⟨f_expectedCount, f_draftLength, f_latestPlace, f_entryCount, f_working, f_ending, f_endNote, f_endValue, f_sayCount, f_stepCount, f_tooLong, f_latestResult, f_latestKind, a_tokenKind, a_tokenValue, a_tokenSize, a_hasBody, a_expected, a_entryToken, a_entryPhase, a_keptEnding, a_keptNote, a_keptValue, a_variables, a_output⟩ := u
      have hv : True := trivial
      rcases hn with rfl | rfl | rfl | rfl | rfl <;> rcases e with rfl | rfl | rfl | rfl <;> (repeat (first | exact h | exact qb_nr0 | exact qb_nr1 | refine br_t (by decide) ?_ | refine br_f (by decide) ?_ | refine br_t hv ?_ | refine br_f hv ?_ | refine br_f hv.1 ?_ | refine br_t hv.2 ?_ | refine br_f hw ?_ | refine And.intro qb_nr0 ?_ | refine And.intro qb_nr1 ?_))
    · have hv : True := trivial
      rcases hn with rfl | rfl | rfl | rfl | rfl <;> rcases e with rfl | rfl | rfl | rfl <;> (repeat (first | exact h | exact qb_nr0 | exact qb_nr1 | refine br_t (by decide) ?_ | refine br_f (by decide) ?_ | refine br_t hv ?_ | refine br_f hv ?_ | refine br_f hv.1 ?_ | refine br_t hv.2 ?_ | refine br_f hw ?_ | refine And.intro qb_nr0 ?_ | refine And.intro qb_nr1 ?_))
theorem tk_say17 (v : Int32) : tk_say 17 v := by
  have X0 : ¬ (v = 1 ∨ v = 2 ∨ v = 4 ∨ v = 5 ∨ v = 6) → ∀ (post : Int32 → Prop) (u : SX), post 0 → wpX_allows post u 17 v := by
    intro hn post u h
    obtain ⟨f_expectedCount, f_draftLength, f_latestPlace, f_entryCount, f_working, f_ending, f_endNote, f_endValue, f_sayCount, f_stepCount, f_tooLong, f_latestResult, f_latestKind, a_tokenKind, a_tokenValue, a_tokenSize, a_hasBody, a_expected, a_entryToken, a_entryPhase, a_keptEnding, a_keptNote, a_keptValue, a_variables, a_output⟩ := u
    (repeat (first | exact h | refine br_t (by decide) ?_ | refine br_f (by decide) ?_))
    exact br_f (fun e => hn (Or.inl e)) (br_f (fun e => hn (Or.inr (Or.inl e))) (br_f (fun e => hn (Or.inr (Or.inr (Or.inl e)))) (br_f (fun e => hn (Or.inr (Or.inr (Or.inr (Or.inl e))))) (br_f (fun e => hn (Or.inr (Or.inr (Or.inr (Or.inr e))))) h))))
  rcases qb_fun v (n := 7) (by decide) with hv | hv | ⟨m, hm, rfl⟩
  · refine Or.inr ⟨X0 ?_, fun bad post h' h => ?_⟩
    · rintro (rfl | rfl | rfl | rfl | rfl) <;> exact absurd hv (by decide)
    · have hv : v ≤ 0 := Int32.le_of_lt hv
      (repeat (first | exact h | exact qb_nr0 | exact qb_nr1 | refine br_t (by decide) ?_ | refine br_f (by decide) ?_ | refine br_t hv ?_ | refine br_f hv ?_ | refine br_f hv.1 ?_ | refine br_t hv.2 ?_ | refine br_f hw ?_ | refine And.intro qb_nr0 ?_ | refine And.intro qb_nr1 ?_))
  · refine Or.inr ⟨X0 ?_, fun bad post h' h => ?_⟩
    · rintro (rfl | rfl | rfl | rfl | rfl) <;> exact absurd hv.2 (by decide)
    · have hw : ¬ v ≤ 0 := fun z => absurd (Int32.le_trans hv.2 z) (by decide)
      (repeat (first | exact h | exact qb_nr0 | exact qb_nr1 | refine br_t (by decide) ?_ | refine br_f (by decide) ?_ | refine br_t hv ?_ | refine br_f hv ?_ | refine br_f hv.1 ?_ | refine br_t hv.2 ?_ | refine br_f hw ?_ | refine And.intro qb_nr0 ?_ | refine And.intro qb_nr1 ?_))
  · have e : m = 0 ∨ m = 1 ∨ m = 2 ∨ m = 3 ∨ m = 4 ∨ m = 5 ∨ m = 6 := by omega
    rcases e with rfl | rfl | rfl | rfl | rfl | rfl | rfl
    all_goals first
      | exact Or.inl ⟨tk_mk17 (by decide), fun post u h => by obtain ⟨f_expectedCount, f_draftLength, f_latestPlace, f_entryCount, f_working, f_ending, f_endNote, f_endValue, f_sayCount, f_stepCount, f_tooLong, f_latestResult, f_latestKind, a_tokenKind, a_tokenValue, a_tokenSize, a_hasBody, a_expected, a_entryToken, a_entryPhase, a_keptEnding, a_keptNote, a_keptValue, a_variables, a_output⟩ := u; (repeat (first | exact h | refine br_t (by decide) ?_ | refine br_f (by decide) ?_)), fun bad post h => by (repeat (first | exact h | refine br_t (by decide) ?_ | refine br_f (by decide) ?_))⟩
      | exact Or.inr ⟨X0 (by decide), fun bad post h' h => by (repeat (first | exact h | refine br_t (by decide) ?_ | refine br_f (by decide) ?_))⟩
theorem tk_say18 (v : Int32) : tk_say 18 v := by
  rcases qb_fun v (n := 48) (by decide) with hv | hv | ⟨m, hm, rfl⟩
  · refine Or.inr ⟨fun post u h => ?_, fun bad post h' h => ?_⟩
    · obtain ⟨f_expectedCount, f_draftLength, f_latestPlace, f_entryCount, f_working, f_ending, f_endNote, f_endValue, f_sayCount, f_stepCount, f_tooLong, f_latestResult, f_latestKind, a_tokenKind, a_tokenValue, a_tokenSize, a_hasBody, a_expected, a_entryToken, a_entryPhase, a_keptEnding, a_keptNote, a_keptValue, a_variables, a_output⟩ := u
      (repeat (first | exact h | exact qb_nr0 | exact qb_nr1 | refine br_t (by decide) ?_ | refine br_f (by decide) ?_ | refine br_t hv ?_ | refine br_f hv ?_ | refine br_f hv.1 ?_ | refine br_t hv.2 ?_ | refine br_f hw ?_ | refine And.intro qb_nr0 ?_ | refine And.intro qb_nr1 ?_))
    · (repeat (first | exact h | exact qb_nr0 | exact qb_nr1 | refine br_t (by decide) ?_ | refine br_f (by decide) ?_ | refine br_t hv ?_ | refine br_f hv ?_ | refine br_f hv.1 ?_ | refine br_t hv.2 ?_ | refine br_f hw ?_ | refine And.intro qb_nr0 ?_ | refine And.intro qb_nr1 ?_))
  · have hw : ¬ v < 48 := Int32.not_lt.mpr hv.2
    refine Or.inr ⟨fun post u h => ?_, fun bad post h' h => ?_⟩
    · obtain ⟨f_expectedCount, f_draftLength, f_latestPlace, f_entryCount, f_working, f_ending, f_endNote, f_endValue, f_sayCount, f_stepCount, f_tooLong, f_latestResult, f_latestKind, a_tokenKind, a_tokenValue, a_tokenSize, a_hasBody, a_expected, a_entryToken, a_entryPhase, a_keptEnding, a_keptNote, a_keptValue, a_variables, a_output⟩ := u
      (repeat (first | exact h | exact qb_nr0 | exact qb_nr1 | refine br_t (by decide) ?_ | refine br_f (by decide) ?_ | refine br_t hv ?_ | refine br_f hv ?_ | refine br_f hv.1 ?_ | refine br_t hv.2 ?_ | refine br_f hw ?_ | refine And.intro qb_nr0 ?_ | refine And.intro qb_nr1 ?_))
    · (repeat (first | exact h | exact qb_nr0 | exact qb_nr1 | refine br_t (by decide) ?_ | refine br_f (by decide) ?_ | refine br_t hv ?_ | refine br_f hv ?_ | refine br_f hv.1 ?_ | refine br_t hv.2 ?_ | refine br_f hw ?_ | refine And.intro qb_nr0 ?_ | refine And.intro qb_nr1 ?_))
  · have ea : nI m &&& 7 = nI (m % 8) := pk_andN (by omega) 3 (by decide)
    have h1 : ¬ nI m < 0 := nI_pos (by omega)
    have h2 : ¬ (48 : Int32) ≤ nI m := nI_ge (b := 48) hm (by decide)
    have h3 : nI m < 48 := nI_lt (b := 48) hm (by decide)
    by_cases h5 : m % 8 < 5
    · have h6 : ¬ (4 : Int32) < nI m &&& 7 := by rw [ea]; exact nI_nlt (b := m % 8) (a := 4) (by omega) (by decide)
      have h7 : ¬ (5 : Int32) ≤ nI m &&& 7 := by rw [ea]; exact nI_ge (b := 5) h5 (by decide)
      refine Or.inl ⟨tk_mk18 hm h5, fun post u h => ?_, fun bad post h => ?_⟩
      · obtain ⟨f_expectedCount, f_draftLength, f_latestPlace, f_entryCount, f_working, f_ending, f_endNote, f_endValue, f_sayCount, f_stepCount, f_tooLong, f_latestResult, f_latestKind, a_tokenKind, a_tokenValue, a_tokenSize, a_hasBody, a_expected, a_entryToken, a_entryPhase, a_keptEnding, a_keptNote, a_keptValue, a_variables, a_output⟩ := u
        (repeat (first | exact h | refine br_t (by decide) ?_ | refine br_f (by decide) ?_))
        exact br_f h1 (br_f h2 (br_f (by decide) (br_f h6 h)))
      · (repeat (first | exact h | refine br_t (by decide) ?_ | refine br_f (by decide) ?_))
        exact br_f h1 (br_t h3 (br_t rfl (br_f h7 h)))
    · have h6 : (4 : Int32) < nI m &&& 7 := by rw [ea]; exact nI_lt (b := m % 8) (a := 4) (by omega) (by omega)
      have h7 : (5 : Int32) ≤ nI m &&& 7 := by rw [ea]; exact nI_le (a := 5) (by omega) (by omega)
      refine Or.inr ⟨fun post u h => ?_, fun bad post h' h => ?_⟩
      · obtain ⟨f_expectedCount, f_draftLength, f_latestPlace, f_entryCount, f_working, f_ending, f_endNote, f_endValue, f_sayCount, f_stepCount, f_tooLong, f_latestResult, f_latestKind, a_tokenKind, a_tokenValue, a_tokenSize, a_hasBody, a_expected, a_entryToken, a_entryPhase, a_keptEnding, a_keptNote, a_keptValue, a_variables, a_output⟩ := u
        (repeat (first | exact h | refine br_t (by decide) ?_ | refine br_f (by decide) ?_))
        exact br_f h1 (br_f h2 (br_f (by decide) (br_t h6 h)))
      · (repeat (first | exact h | refine br_t (by decide) ?_ | refine br_f (by decide) ?_))
        exact br_f h1 (br_t h3 (br_t rfl (br_t h7 h)))
theorem tk_saya (k v : Int32) : tk_say k v := by
  rcases qb_fun k (n := 22) (by decide) with hk | hk | ⟨n, hn, rfl⟩
  · have a1 : k < 1 := Int32.lt_trans hk (by decide)
    have a2 : ¬ k = 18 := fun e => absurd (e ▸ hk) (by decide)
    have a3 : k < 10 := Int32.lt_trans hk (by decide)
    refine Or.inr ⟨fun post u h => ?_, fun bad post h' h => ?_⟩
    · obtain ⟨f_expectedCount, f_draftLength, f_latestPlace, f_entryCount, f_working, f_ending, f_endNote, f_endValue, f_sayCount, f_stepCount, f_tooLong, f_latestResult, f_latestKind, a_tokenKind, a_tokenValue, a_tokenSize, a_hasBody, a_expected, a_entryToken, a_entryPhase, a_keptEnding, a_keptNote, a_keptValue, a_variables, a_output⟩ := u
      exact br_t a1 (br_f a2 (br_t hk (br_t a3 (br_t rfl h))))
    · exact br_t hk (br_f (by decide) h')
  · have a1 : ¬ k < 1 := fun z => absurd (Int32.lt_of_le_of_lt hk.2 z) (by decide)
    have a2 : (20 : Int32) < k := Int32.lt_of_lt_of_le (by decide) hk.2
    have a3 : ¬ k = 18 := fun e => absurd (e ▸ a2) (by decide)
    have a4 : (8 : Int32) < k := Int32.lt_trans (by decide) a2
    have a5 : ¬ k < 10 := fun z => absurd (Int32.lt_trans a2 z) (by decide)
    have a6 : (21 : Int32) < k := Int32.lt_of_lt_of_le (by decide) hk.2
    have a7 : ¬ k < 22 := Int32.not_lt.mpr hk.2
    refine Or.inr ⟨fun post u h => ?_, fun bad post h' h => ?_⟩
    · obtain ⟨f_expectedCount, f_draftLength, f_latestPlace, f_entryCount, f_working, f_ending, f_endNote, f_endValue, f_sayCount, f_stepCount, f_tooLong, f_latestResult, f_latestKind, a_tokenKind, a_tokenValue, a_tokenSize, a_hasBody, a_expected, a_entryToken, a_entryPhase, a_keptEnding, a_keptNote, a_keptValue, a_variables, a_output⟩ := u
      exact br_f a1 (br_t a2 (br_f a3 (br_f hk.1 (br_t a4 (br_f a5 (br_t a6 (br_t rfl h)))))))
    · exact br_f hk.1 (br_f a7 (br_f (by decide) h'))
  · have e : n = 0 ∨ n = 1 ∨ n = 2 ∨ n = 3 ∨ n = 4 ∨ n = 5 ∨ n = 6 ∨ n = 7 ∨ n = 8 ∨ n = 9 ∨ n = 10 ∨ n = 11 ∨ n = 12 ∨ n = 13 ∨ n = 14 ∨ n = 15 ∨ n = 16 ∨ n = 17 ∨ n = 18 ∨ n = 19 ∨ n = 20 ∨ n = 21 := by omega
    rcases e with rfl | rfl | rfl | rfl | rfl | rfl | rfl | rfl | rfl | rfl | rfl | rfl | rfl | rfl | rfl | rfl | rfl | rfl | rfl | rfl | rfl | rfl
    all_goals first
      | exact Or.inl ⟨tk_mk_free (by decide) (by decide), fun post u h => by obtain ⟨f_expectedCount, f_draftLength, f_latestPlace, f_entryCount, f_working, f_ending, f_endNote, f_endValue, f_sayCount, f_stepCount, f_tooLong, f_latestResult, f_latestKind, a_tokenKind, a_tokenValue, a_tokenSize, a_hasBody, a_expected, a_entryToken, a_entryPhase, a_keptEnding, a_keptNote, a_keptValue, a_variables, a_output⟩ := u; (repeat (first | exact h | refine br_t (by decide) ?_ | refine br_f (by decide) ?_)), fun bad post h => by (repeat (first | exact h | refine br_t (by decide) ?_ | refine br_f (by decide) ?_))⟩
      | exact tk_say6 (by decide) v
      | exact tk_say4 (by decide) v
      | exact tk_say17 v
      | exact tk_say18 v
      | exact Or.inr ⟨fun post u h => by obtain ⟨f_expectedCount, f_draftLength, f_latestPlace, f_entryCount, f_working, f_ending, f_endNote, f_endValue, f_sayCount, f_stepCount, f_tooLong, f_latestResult, f_latestKind, a_tokenKind, a_tokenValue, a_tokenSize, a_hasBody, a_expected, a_entryToken, a_entryPhase, a_keptEnding, a_keptNote, a_keptValue, a_variables, a_output⟩ := u; (repeat (first | exact h | refine br_t (by decide) ?_ | refine br_f (by decide) ?_)), fun bad post h' h => br_f (by decide) (br_t (by decide) (br_t rfl (br_t rfl h')))⟩
end
end
section
/-- row r holds a good body of L tokens, alike on both sides -/
def pg_row (K V Z KY VY U B : Nat → Int32) (r L : Nat) : Prop :=
  tr_T L (fun i => K (40 * r + i)) (fun i => V (40 * r + i)) (fun i => Z (40 * r + i)) (fun i => U (40 * r + i)) (fun j => B (160 * r + j)) ∧ ∀ i, i < L → KY (40 * r + i) = K (40 * r + i) ∧ VY (40 * r + i) = V (40 * r + i)
/-- the four functions: LN r is the length of the body, 0 if there is none -/
def pg_ok (K V Z HB KY VY U B LY : Nat → Int32) (LN : Nat → Nat) : Prop :=
  ∀ r, r < 4 → (LN r = 0 ∧ HB r = 0 ∧ LY r = 0) ∨ (1 ≤ LN r ∧ HB r = 1 ∧ LY r = nI (LN r) ∧ pg_row K V Z KY VY U B r (LN r))
/-- the draft, alike on both sides -/
def dr_ok (K V KY VY : Nat → Int32) (d : Nat) : Prop := d ≤ 40 ∧ ∀ i, i < d → tk_ok (K (160 + i)) (V (160 + i)) ∧ KY (160 + i) = K (160 + i) ∧ VY (160 + i) = V (160 + i)
def i_Rel (_ : Nat) (u : SX) (v : SY) : Prop := match u, v with
  | (f_expectedCount, f_draftLength, f_latestPlace, f_entryCount, f_working, f_ending, f_endNote, f_endValue, f_sayCount, f_stepCount, f_tooLong, f_latestResult, f_latestKind, a_tokenKind, a_tokenValue, a_tokenSize, a_hasBody, a_expected, a_entryToken, a_entryPhase, a_keptEnding, a_keptNote, a_keptValue, a_variables, a_output), (f_place, f_top, f_held, f_depth, f_ended, f_endTarget, f_endKind, f_endWorth, f_steps, f_says, f_result, f_thrown, f_over, a_kind, a_up, a_length, a_value, a_below, a_open, a_token, a_height, a_target, a_phase, a_how, a_kinds, a_worth, a_values, b_variables, a_begun, b_output) => ∃ (d s : Nat) (LN : Nat → Nat), f_draftLength = nI d ∧ a_length 4 = nI d ∧ dr_ok a_tokenKind a_tokenValue a_kind a_value d ∧ pg_ok a_tokenKind a_tokenValue a_tokenSize a_hasBody a_kind a_value a_up a_below a_length LN ∧ f_place = f_latestPlace ∧ f_result = f_latestResult ∧ f_thrown = f_latestKind ∧ f_steps = f_stepCount ∧ f_sayCount = nI s ∧ s ≤ 2000000 ∧ f_says = nI s ∧ b_variables = a_variables ∧ b_output = a_output
theorem i_up {k : Nat} {u : SX} {v : SY} (h : i_Rel k u v) : i_Rel (k + 3) u v := h
theorem i_vc0 : wpX_init (fun u => wpY_init (fun v => i_Rel 0 u v)) :=
  ⟨0, 0, fun _ => 0, rfl, rfl, ⟨by decide, fun i h => absurd h (Nat.not_lt_zero i)⟩, fun r _ => Or.inl ⟨rfl, rfl, rfl⟩, rfl, rfl, rfl, rfl, rfl, by decide, rfl, rfl, rfl⟩
theorem qr_tokY {K V KY VY K' V' KY' VY' : Nat → Int32} {d : Nat} {k v : Int32} (hd : d < 40) (h : dr_ok K V KY VY d) (hk : tk_ok k v) (e1 : K' = upd K (160 + d) k) (e2 : V' = upd V (160 + d) v) (e3 : KY' = upd KY (160 + d) k) (e4 : VY' = upd VY (160 + d) v) : dr_ok K' V' KY' VY' (d + 1) := by
  subst e1 e2 e3 e4
  refine ⟨by omega, fun i hi => ?_⟩
  by_cases e : i = d
  · subst e
    simp only [pk_us]
    exact ⟨hk, trivial, trivial⟩
  · rw [pk_un (by omega), pk_un (by omega), pk_un (by omega), pk_un (by omega)]
    exact h.2 i (by omega)
/-- what lies outside the rows may change -/
theorem qr_pg {K V Z HB KY VY U B LY K' V' Z' HB' KY' VY' U' B' LY' : Nat → Int32} {LN : Nat → Nat} (h : pg_ok K V Z HB KY VY U B LY LN) (e1 : ∀ j, j < 160 → K' j = K j) (e2 : ∀ j, j < 160 → V' j = V j) (e3 : ∀ j, j < 160 → Z' j = Z j) (e4 : ∀ j, j < 4 → HB' j = HB j) (e5 : ∀ j, j < 160 → KY' j = KY j) (e6 : ∀ j, j < 160 → VY' j = VY j) (e7 : ∀ j, j < 160 → U' j = U j) (e8 : ∀ j, j < 640 → B' j = B j) (e9 : ∀ j, j < 4 → LY' j = LY j) : pg_ok K' V' Z' HB' KY' VY' U' B' LY' LN := by
  intro r hr
  rcases h r hr with ⟨a, b, c⟩ | ⟨a, b, c, d, f⟩
  · exact Or.inl ⟨a, (e4 r hr).trans b, (e9 r hr).trans c⟩
  · have hL := d.2.1
    refine Or.inr ⟨a, (e4 r hr).trans b, (e9 r hr).trans c, tr_T_congr (fun i hi => e1 _ (by omega)) (fun i hi => e2 _ (by omega)) (fun i hi => e3 _ (by omega)) (fun i hi p _ e => (e7 _ (by omega)).trans e) (fun i hi p _ e => (e8 _ (by omega)).trans e) d, fun i hi => ?_⟩
    rw [e1 _ (by omega), e2 _ (by omega), e5 _ (by omega), e6 _ (by omega)]
    exact f i hi
theorem qr_up {f : Nat → Int32} {n j : Nat} {x : Int32} {m : Nat} (hn : n = j) (hm : m ≤ j) : ∀ q, q < m → upd f n x q = f q := fun q hq => pk_un (by omega)
theorem i_vc_token {k : Nat} {u : SX} {v : SY} (I : i_Rel k u v) (hk : k + 3 ≤ 1536) (v1 : Int32) (v2 : Int32) : wpX_token (fun r u' => wpY_token (fun r' v' => r' = r ∧ i_Rel (k + 3) u' v') v v1 v2) u v1 v2 := by
  obtain ⟨f_expectedCount, f_draftLength, f_latestPlace, f_entryCount, f_working, f_ending, f_endNote, f_endValue, f_sayCount, f_stepCount, f_tooLong, f_latestResult, f_latestKind, a_tokenKind, a_tokenValue, a_tokenSize, a_hasBody, a_expected, a_entryToken, a_entryPhase, a_keptEnding, a_keptNote, a_keptValue, a_variables, a_output⟩ := u
  obtain ⟨f_place, f_top, f_held, f_depth, f_ended, f_endTarget, f_endKind, f_endWorth, f_steps, f_says, f_result, f_thrown, f_over, a_kind, a_up, a_length, a_value, a_below, a_open, a_token, a_height, a_target, a_phase, a_how, a_kinds, a_worth, a_values, b_variables, a_begun, b_output⟩ := v
  have I' := I
  obtain ⟨d, s, LN, rfl, h4, hdr, hpg, h5⟩ := I
  have hd := hdr.1
  rcases tk_saya v1 v2 with ⟨ok, hx, hy⟩ | ⟨hx, hy⟩
  · by_cases h40 : d = 40
    · refine br_t (by rw [h40]; decide) (hy _ _ (br_f (by decide) (br_t (by rw [h4, h40]; decide) ⟨rfl, I'⟩)))
    · have e1 : (160 : Int32) + nI d = nI (160 + d) := nI_add 160 d
      have ec : ((160 : Int32) + nI d).toNatClampNeg = 160 + d := by rw [e1]; exact nI_clamp (by omega)
      have ei : vp_in ((160 : Int32) + nI d) 200 := by rw [e1]; exact vp_in_nI (by omega) (by decide)
      refine br_f (nI_ge (b := 40) (by omega) (by decide)) (hx _ _ (br_f (by decide) ⟨ei, nm_r (by rw [ec]) ⟨ei, nm_r (by rw [ec]) (nm_r (nI_1 d) ?_)⟩⟩))
      refine hy _ _ (br_f (by decide) (br_f ?_ ⟨by rw [h4]; exact ei, nm_r (e' := upd a_kind (160 + d) v1) ?_ (nm_r (e' := upd a_length 4 (nI (d + 1))) ?_ ⟨by rw [h4]; exact ei, nm_r (e' := upd a_value (160 + d) v2) (by rw [h4, ec]) ?_⟩)⟩))
      · rw [h4]
        exact fun e => h40 ((nI_eq (b := 40) (by omega) (by decide)).mp e)
      · rw [h4, ec]
        obtain ⟨n, rfl, hn, _⟩ := ok
        rw [qb_nb8 (by omega)]
      · rw [h4, nI_1, qb_nb8 (by omega)]
      · refine ⟨rfl, d + 1, s, LN, rfl, pk_us, qr_tokY (by omega) hdr ok rfl rfl rfl rfl, qr_pg hpg (qr_up rfl (by omega)) (qr_up rfl (by omega)) (fun _ _ => rfl) (fun _ _ => rfl) (qr_up rfl (by omega)) (qr_up rfl (by omega)) (fun _ _ => rfl) (fun _ _ => rfl) (qr_up rfl (by omega)), h5⟩
  · by_cases h40 : d = 40
    · exact br_t (by rw [h40]; decide) (hy _ _ ⟨rfl, I'⟩ (br_t rfl ⟨rfl, I'⟩))
    · exact br_f (nI_ge (b := 40) (by omega) (by decide)) (hx _ _ (br_t rfl (hy _ _ ⟨rfl, I'⟩ (br_t rfl ⟨rfl, I'⟩))))
theorem i_vc_place {k : Nat} {u : SX} {v : SY} (I : i_Rel k u v) (hk : k + 3 ≤ 1536) : wpX_place (fun r => wpY_place (fun r' => r' = r ∧ i_Rel (k + 3) u v) v) u := by
  obtain ⟨f_expectedCount, f_draftLength, f_latestPlace, f_entryCount, f_working, f_ending, f_endNote, f_endValue, f_sayCount, f_stepCount, f_tooLong, f_latestResult, f_latestKind, a_tokenKind, a_tokenValue, a_tokenSize, a_hasBody, a_expected, a_entryToken, a_entryPhase, a_keptEnding, a_keptNote, a_keptValue, a_variables, a_output⟩ := u
  obtain ⟨f_place, f_top, f_held, f_depth, f_ended, f_endTarget, f_endKind, f_endWorth, f_steps, f_says, f_result, f_thrown, f_over, a_kind, a_up, a_length, a_value, a_below, a_open, a_token, a_height, a_target, a_phase, a_how, a_kinds, a_worth, a_values, b_variables, a_begun, b_output⟩ := v
  have I' := I
  obtain ⟨d, s, LN, h1, h2, h3, h4, h5, h6, h7, h8, h9, h10, h11, h12, h13⟩ := I
  exact ⟨h5, I'⟩
theorem i_vc_result {k : Nat} {u : SX} {v : SY} (I : i_Rel k u v) (hk : k + 3 ≤ 1536) : wpX_result (fun r => wpY_result (fun r' => r' = r ∧ i_Rel (k + 3) u v) v) u := by
  obtain ⟨f_expectedCount, f_draftLength, f_latestPlace, f_entryCount, f_working, f_ending, f_endNote, f_endValue, f_sayCount, f_stepCount, f_tooLong, f_latestResult, f_latestKind, a_tokenKind, a_tokenValue, a_tokenSize, a_hasBody, a_expected, a_entryToken, a_entryPhase, a_keptEnding, a_keptNote, a_keptValue, a_variables, a_output⟩ := u
  obtain ⟨f_place, f_top, f_held, f_depth, f_ended, f_endTarget, f_endKind, f_endWorth, f_steps, f_says, f_result, f_thrown, f_over, a_kind, a_up, a_length, a_value, a_below, a_open, a_token, a_height, a_target, a_phase, a_how, a_kinds, a_worth, a_values, b_variables, a_begun, b_output⟩ := v
  have I' := I
  obtain ⟨d, s, LN, h1, h2, h3, h4, h5, h6, h7, h8, h9, h10, h11, h12, h13⟩ := I
  exact ⟨h6, I'⟩
theorem i_vc_kind {k : Nat} {u : SX} {v : SY} (I : i_Rel k u v) (hk : k + 3 ≤ 1536) : wpX_kind (fun r => wpY_kind (fun r' => r' = r ∧ i_Rel (k + 3) u v) v) u := by
  obtain ⟨f_expectedCount, f_draftLength, f_latestPlace, f_entryCount, f_working, f_ending, f_endNote, f_endValue, f_sayCount, f_stepCount, f_tooLong, f_latestResult, f_latestKind, a_tokenKind, a_tokenValue, a_tokenSize, a_hasBody, a_expected, a_entryToken, a_entryPhase, a_keptEnding, a_keptNote, a_keptValue, a_variables, a_output⟩ := u
  obtain ⟨f_place, f_top, f_held, f_depth, f_ended, f_endTarget, f_endKind, f_endWorth, f_steps, f_says, f_result, f_thrown, f_over, a_kind, a_up, a_length, a_value, a_below, a_open, a_token, a_height, a_target, a_phase, a_how, a_kinds, a_worth, a_values, b_variables, a_begun, b_output⟩ := v
  have I' := I
  obtain ⟨d, s, LN, h1, h2, h3, h4, h5, h6, h7, h8, h9, h10, h11, h12, h13⟩ := I
  exact ⟨h7, I'⟩
theorem i_vc_steps {k : Nat} {u : SX} {v : SY} (I : i_Rel k u v) (hk : k + 3 ≤ 1536) : wpX_steps (fun r => wpY_steps (fun r' => r' = r ∧ i_Rel (k + 3) u v) v) u := by
  obtain ⟨f_expectedCount, f_draftLength, f_latestPlace, f_entryCount, f_working, f_ending, f_endNote, f_endValue, f_sayCount, f_stepCount, f_tooLong, f_latestResult, f_latestKind, a_tokenKind, a_tokenValue, a_tokenSize, a_hasBody, a_expected, a_entryToken, a_entryPhase, a_keptEnding, a_keptNote, a_keptValue, a_variables, a_output⟩ := u
  obtain ⟨f_place, f_top, f_held, f_depth, f_ended, f_endTarget, f_endKind, f_endWorth, f_steps, f_says, f_result, f_thrown, f_over, a_kind, a_up, a_length, a_value, a_below, a_open, a_token, a_height, a_target, a_phase, a_how, a_kinds, a_worth, a_values, b_variables, a_begun, b_output⟩ := v
  have I' := I
  obtain ⟨d, s, LN, h1, h2, h3, h4, h5, h6, h7, h8, h9, h10, h11, h12, h13⟩ := I
  exact ⟨h8, I'⟩
theorem i_vc_says {k : Nat} {u : SX} {v : SY} (I : i_Rel k u v) (hk : k + 3 ≤ 1536) : wpX_says (fun r => wpY_says (fun r' => r' = r ∧ i_Rel (k + 3) u v) v) u := by
  obtain ⟨f_expectedCount, f_draftLength, f_latestPlace, f_entryCount, f_working, f_ending, f_endNote, f_endValue, f_sayCount, f_stepCount, f_tooLong, f_latestResult, f_latestKind, a_tokenKind, a_tokenValue, a_tokenSize, a_hasBody, a_expected, a_entryToken, a_entryPhase, a_keptEnding, a_keptNote, a_keptValue, a_variables, a_output⟩ := u
  obtain ⟨f_place, f_top, f_held, f_depth, f_ended, f_endTarget, f_endKind, f_endWorth, f_steps, f_says, f_result, f_thrown, f_over, a_kind, a_up, a_length, a_value, a_below, a_open, a_token, a_height, a_target, a_phase, a_how, a_kinds, a_worth, a_values, b_variables, a_begun, b_output⟩ := v
  have I' := I
  obtain ⟨d, s, LN, h1, h2, h3, h4, h5, h6, h7, h8, h9, h10, h11, h12, h13⟩ := I
  exact ⟨h11.trans h9.symm, I'⟩
theorem i_vc_said {k : Nat} {u : SX} {v : SY} (I : i_Rel k u v) (hk : k + 3 ≤ 1536) (v1 : Int32) : wpX_said (fun r => wpY_said (fun r' => r' = r ∧ i_Rel (k + 3) u v) v v1) u v1 := by
  obtain ⟨f_expectedCount, f_draftLength, f_latestPlace, f_entryCount, f_working, f_ending, f_endNote, f_endValue, f_sayCount, f_stepCount, f_tooLong, f_latestResult, f_latestKind, a_tokenKind, a_tokenValue, a_tokenSize, a_hasBody, a_expected, a_entryToken, a_entryPhase, a_keptEnding, a_keptNote, a_keptValue, a_variables, a_output⟩ := u
  obtain ⟨f_place, f_top, f_held, f_depth, f_ended, f_endTarget, f_endKind, f_endWorth, f_steps, f_says, f_result, f_thrown, f_over, a_kind, a_up, a_length, a_value, a_below, a_open, a_token, a_height, a_target, a_phase, a_how, a_kinds, a_worth, a_values, b_variables, a_begun, b_output⟩ := v
  have I' := I
  obtain ⟨d, s, LN, h1, h2, h3, h4, h5, h6, h7, h8, h9, h10, h11, h12, h13⟩ := I
  unfold wpX_said wpY_said
  dsimp only
  rcases qb_fun v1 (n := 40) (by decide) with hv | hv | ⟨m, hm, rfl⟩
  · exact br_t hv (qy_outN (by decide) (Or.inl hv) (br_f (by decide) ⟨rfl, I'⟩))
  · exact br_f hv.1 (br_t hv.2 (qy_outN (by decide) (Or.inr hv) (br_f (by decide) ⟨rfl, I'⟩)))
  · have hi : vp_in (nI m) 40 := vp_in_nI hm (by decide)
    refine br_f (nI_pos (by omega)) (br_f (nI_ge (b := 40) hm (by decide)) (br_c (fun z => ⟨hi, ?_⟩) (fun z => ?_)))
    · exact qy_outF (n := 40) hm (by decide) (br_t rfl (br_t (by rw [h11, ← h9]; exact z) ⟨hi, by rw [h13], I'⟩))
    · exact qy_outF (n := 40) hm (by decide) (br_t rfl (br_f (by rw [h11, ← h9]; exact z) ⟨rfl, I'⟩))
theorem i_vc_drop {k : Nat} {u : SX} {v : SY} (I : i_Rel k u v) (hk : k + 3 ≤ 1536) (v1 : Int32) : wpX_drop (fun r u' => wpY_drop (fun r' v' => r' = r ∧ i_Rel (k + 3) u' v') v v1) u v1 := by
  obtain ⟨f_expectedCount, f_draftLength, f_latestPlace, f_entryCount, f_working, f_ending, f_endNote, f_endValue, f_sayCount, f_stepCount, f_tooLong, f_latestResult, f_latestKind, a_tokenKind, a_tokenValue, a_tokenSize, a_hasBody, a_expected, a_entryToken, a_entryPhase, a_keptEnding, a_keptNote, a_keptValue, a_variables, a_output⟩ := u
  obtain ⟨f_place, f_top, f_held, f_depth, f_ended, f_endTarget, f_endKind, f_endWorth, f_steps, f_says, f_result, f_thrown, f_over, a_kind, a_up, a_length, a_value, a_below, a_open, a_token, a_height, a_target, a_phase, a_how, a_kinds, a_worth, a_values, b_variables, a_begun, b_output⟩ := v
  have I' := I
  obtain ⟨d, s, LN, h1, h2, h3, hpg, h5⟩ := I
  have noY : (v1 < 0 ∨ (¬ v1 < 0 ∧ nI 4 ≤ v1)) → wpY_drop (fun r' v' => r' = 0 ∧ i_Rel (k + 3) (f_expectedCount, f_draftLength, f_latestPlace, f_entryCount, f_working, f_ending, f_endNote, f_endValue, f_sayCount, f_stepCount, f_tooLong, f_latestResult, f_latestKind, a_tokenKind, a_tokenValue, a_tokenSize, a_hasBody, a_expected, a_entryToken, a_entryPhase, a_keptEnding, a_keptNote, a_keptValue, a_variables, a_output) v') (f_place, f_top, f_held, f_depth, f_ended, f_endTarget, f_endKind, f_endWorth, f_steps, f_says, f_result, f_thrown, f_over, a_kind, a_up, a_length, a_value, a_below, a_open, a_token, a_height, a_target, a_phase, a_how, a_kinds, a_worth, a_values, b_variables, a_begun, b_output) v1 := by
    intro hv
    unfold wpY_drop
    exact qy_outN (n := 4) (by decide) hv (br_f (by decide) ⟨rfl, I'⟩)
  have no : (v1 < 0 ∨ (¬ v1 < 0 ∧ nI 4 ≤ v1)) → wpX_drop (fun r u' => wpY_drop (fun r' v' => r' = r ∧ i_Rel (k + 3) u' v') (f_place, f_top, f_held, f_depth, f_ended, f_endTarget, f_endKind, f_endWorth, f_steps, f_says, f_result, f_thrown, f_over, a_kind, a_up, a_length, a_value, a_below, a_open, a_token, a_height, a_target, a_phase, a_how, a_kinds, a_worth, a_values, b_variables, a_begun, b_output) v1) (f_expectedCount, f_draftLength, f_latestPlace, f_entryCount, f_working, f_ending, f_endNote, f_endValue, f_sayCount, f_stepCount, f_tooLong, f_latestResult, f_latestKind, a_tokenKind, a_tokenValue, a_tokenSize, a_hasBody, a_expected, a_entryToken, a_entryPhase, a_keptEnding, a_keptNote, a_keptValue, a_variables, a_output) v1 := by
    intro hv
    have hY := noY hv
    unfold wpX_drop
    exact qx_isN hv (br_t rfl hY)
  rcases qb_fun v1 (n := 4) (by decide) with hv | hv | ⟨m, hm, rfl⟩
  · exact no (Or.inl hv)
  · exact no (Or.inr hv)
  · have ec : (nI m).toNatClampNeg = m := nI_clamp (by omega)
    have hi : vp_in (nI m) 4 := vp_in_nI hm (by decide)
    have hj : vp_in (nI m) 5 := vp_in_nI (by omega) (by decide)
    unfold wpX_drop
    refine qx_isF hm (br_f (by decide) ⟨hi, ?_⟩)
    unfold wpY_drop
    dsimp only
    rcases hpg m hm with ⟨a, b, c⟩ | ⟨a, b, c, e⟩
    · exact br_t (by rw [ec]; exact b) (qy_outF (n := 4) hm (by decide) (br_t rfl ⟨hj, br_t (by rw [ec]; exact c) ⟨rfl, I'⟩⟩))
    · have hL := e.1.2.1
      refine br_f (by rw [ec, b]; decide) ⟨hi, nm_r (e' := upd a_hasBody m 0) (by rw [ec]; rfl) (qy_outF (n := 4) hm (by decide) (br_t rfl ⟨hj, br_f (by rw [ec, c]; exact nI_ne0 a (by omega)) ⟨hj, nm_r (e' := upd a_length m 0) (by rw [ec]; exact congrArg (upd a_length m) (qb_nb (n := 0) (by decide))) ⟨rfl, d, s, fun r => if r = m then 0 else LN r, h1, ?_, h3, fun r hr => ?_, h5⟩⟩⟩))⟩
      · rw [pk_un (by omega)]; exact h2
      · by_cases er : r = m
        · subst er
          exact Or.inl ⟨if_pos rfl, pk_us, pk_us⟩
        · simp only [if_neg er]
          rw [pk_un er, pk_un er]
          exact hpg r hr
end
section
/-- token i fits -/
def ps_fit (k v : Nat → Int32) (i : Nat) : Prop := ∃ x xs, ps_st k v i = x :: xs ∧ tk_so (k i) = ps_wn k v x
/-- where the draft stops being the beginning of a statement -/
def ps_ans (k v : Nat → Int32) (d : Nat) (r : Int32) : Prop := (∃ i, i < d ∧ ps_ok k v i ∧ ¬ ps_fit k v i ∧ r = nI i) ∨ (ps_ok k v d ∧ ps_st k v d ≠ [] ∧ r = nI d) ∨ (ps_ok k v d ∧ ps_st k v d = [] ∧ r = -1)
theorem ps_ans_one {k v : Nat → Int32} {d : Nat} {r r' : Int32} (h : ps_ans k v d r) (h' : ps_ans k v d r') : r' = r := by
  rcases h with ⟨i, hi, ok, nf, rfl⟩ | ⟨ok, ne, rfl⟩ | ⟨ok, ne, rfl⟩ <;> rcases h' with ⟨i', hi', ok', nf', rfl⟩ | ⟨ok', ne', rfl⟩ | ⟨ok', ne', rfl⟩
  · rcases Nat.lt_trichotomy i i' with z | z | z
    · exact (nf (ok' i z)).elim
    · rw [z]
    · exact (nf' (ok i' z)).elim
  · exact (nf (ok' i hi)).elim
  · exact (nf (ok' i hi)).elim
  · exact (nf' (ok i' hi')).elim
  · rfl
  · exact (ne ne').elim
  · exact (nf' (ok i' hi')).elim
  · exact (ne' ne).elim
  · rfl
theorem ps_wn_lt {k v : Nat → Int32} {x : Nat} : ps_wn k v x < 3 := by
  unfold ps_wn tk_wt
  repeat' split
  all_goals omega
theorem tk_so_lt {k : Int32} : tk_so k < 3 := by
  unfold tk_so
  repeat' split
  all_goals omega
/-- the stack of expected sorts stands for the places that are wanting -/
def xe_R (k v : Nat → Int32) (ex : Nat → Int32) : List Nat → Prop
  | [] => True
  | x :: xs => ex xs.length = nI (ps_wn k v x + 1) ∧ xe_R k v ex xs
theorem xe_keep {k v ex ex' : Nat → Int32} : ∀ l : List Nat, (∀ q, q < l.length → ex' q = ex q) → xe_R k v ex l → xe_R k v ex' l := by
  intro l
  induction l with
  | nil => intro _ _; trivial
  | cons x xs ih => intro h hr; exact ⟨(h _ (Nat.lt_succ_self _)).trans hr.1, ih (fun q hq => h q (Nat.lt_succ_of_lt hq)) hr.2⟩
/-- n times s from place c on -/
def xe_f (ex : Nat → Int32) (c n : Nat) (s : Int32) : Nat → Int32 := fun q => if c ≤ q ∧ q < c + n then s else ex q
section
variable {f_expectedCount f_draftLength f_latestPlace f_entryCount f_working f_ending f_endNote f_endValue f_sayCount f_stepCount f_tooLong f_latestResult f_latestKind : Int32} {a_tokenKind a_tokenValue a_tokenSize a_hasBody a_expected a_entryToken a_entryPhase a_keptEnding a_keptNote a_keptValue a_variables a_output : Nat → Int32}
theorem qx_expect {post : SX → Prop} {s : Int32} {c n : Nat} (hc : c + n ≤ 121) (h : post (nI (c + n), f_draftLength, f_latestPlace, f_entryCount, f_working, f_ending, f_endNote, f_endValue, f_sayCount, f_stepCount, f_tooLong, f_latestResult, f_latestKind, a_tokenKind, a_tokenValue, a_tokenSize, a_hasBody, xe_f a_expected c n s, a_entryToken, a_entryPhase, a_keptEnding, a_keptNote, a_keptValue, a_variables, a_output)) : wpX_expect post (nI c, f_draftLength, f_latestPlace, f_entryCount, f_working, f_ending, f_endNote, f_endValue, f_sayCount, f_stepCount, f_tooLong, f_latestResult, f_latestKind, a_tokenKind, a_tokenValue, a_tokenSize, a_hasBody, a_expected, a_entryToken, a_entryPhase, a_keptEnding, a_keptNote, a_keptValue, a_variables, a_output) s (nI n) := by
  have L : ∀ m j, j + m = n → wX_expect_2 post s (nI n) f_draftLength f_latestPlace f_entryCount f_working f_ending f_endNote f_endValue f_sayCount f_stepCount f_tooLong f_latestResult f_latestKind (m + 1) (nI j) (nI (c + j)) a_tokenKind a_tokenValue a_tokenSize a_hasBody (xe_f a_expected c j s) a_entryToken a_entryPhase a_keptEnding a_keptNote a_keptValue a_variables a_output := by
    intro m
    induction m with
    | zero =>
      intro j hj
      have : j = n := by omega
      subst this
      exact br_t (nI_le (Nat.le_refl _) (by omega)) h
    | succ m ih =>
      intro j hj
      refine br_f (nI_ge (by omega) (by omega)) (br_f (nI_ge (b := 121) (by omega) (by decide)) ⟨vp_in_nI (by omega) (by decide), nm_r (e' := xe_f a_expected c (j + 1) s) ?_ (nm_r (e' := nI (c + (j + 1))) (nI_1 _) (nm_r (nI_1 j) (ih (j + 1) (by omega))))⟩)
      rw [nI_clamp (by omega)]
      funext q
      unfold upd xe_f
      by_cases e : q = c + j
      · rw [if_pos e, if_pos (by omega)]
      · rw [if_neg e]
        by_cases e2 : c ≤ q ∧ q < c + j
        · rw [if_pos e2, if_pos (by omega)]
        · rw [if_neg e2, if_neg (by omega)]
  have e0 : xe_f a_expected c 0 s = a_expected := by funext q; exact if_neg (by omega)
  have := L n 0 (by omega)
  rw [e0] at this
  exact ⟨n + 1, this⟩
/-- the four rows of sorts that a token expects -/
def xe_4 (ex : Nat → Int32) (c : Nat) (k v : Int32) : Nat → Int32 := xe_f (xe_f (xe_f (xe_f ex c (tk_f k v) 2) (c + tk_f k v) (tk_c k v) 3) (c + tk_f k v + tk_c k v) (tk_sn k) 2) (c + tk_f k v + tk_c k v + tk_sn k) (tk_xn k) 1
theorem qx_expectParts {post : SX → Prop} {k v : Int32} {c : Nat} (hk : tk_ok k v) (hc : c + tk_np k v ≤ 121) (h : post (nI (c + tk_np k v), f_draftLength, f_latestPlace, f_entryCount, f_working, f_ending, f_endNote, f_endValue, f_sayCount, f_stepCount, f_tooLong, f_latestResult, f_latestKind, a_tokenKind, a_tokenValue, a_tokenSize, a_hasBody, xe_4 a_expected c k v, a_entryToken, a_entryPhase, a_keptEnding, a_keptNote, a_keptValue, a_variables, a_output)) : wpX_expectParts post (nI c, f_draftLength, f_latestPlace, f_entryCount, f_working, f_ending, f_endNote, f_endValue, f_sayCount, f_stepCount, f_tooLong, f_latestResult, f_latestKind, a_tokenKind, a_tokenValue, a_tokenSize, a_hasBody, a_expected, a_entryToken, a_entryPhase, a_keptEnding, a_keptNote, a_keptValue, a_variables, a_output) k v := by
  have e := tk_np_sum hk
  rw [show c + tk_np k v = c + tk_f k v + tk_c k v + tk_sn k + tk_xn k from by omega] at h
  unfold wpX_expectParts
  exact qx_fin hk (qx_cat hk (qx_stat hk (qx_expr hk (qx_expect (by omega) (qx_expect (by omega) (qx_expect (by omega) (qx_expect (by omega) h)))))))
end
theorem xe_4_lo {ex : Nat → Int32} {c : Nat} {k v : Int32} {q : Nat} (h : q < c) : xe_4 ex c k v q = ex q := by
  unfold xe_4 xe_f
  rw [if_neg (by omega), if_neg (by omega), if_neg (by omega), if_neg (by omega)]
theorem xe_4_at {ex : Nat → Int32} {c : Nat} {k v : Int32} (hk : tk_ok k v) {o n : Nat} (h : o + (n + 1) = tk_np k v) : xe_4 ex c k v (n + c) = nI (tk_wt k v o + 1) := by
  have key : (if tk_f k v + tk_c k v + tk_sn k ≤ n then (1 : Int32) else if tk_f k v + tk_c k v ≤ n then 2 else if tk_f k v ≤ n then 3 else 2) = nI (tk_wt k v o + 1) := by
    have h4 := tk_np_le hk
    have eo : o = 0 ∨ o = 1 ∨ o = 2 ∨ o = 3 := by omega
    have en : n = 0 ∨ n = 1 ∨ n = 2 ∨ n = 3 := by omega
    by_cases e17 : k = 17
    · subst e17
      rcases tk_try hk with rfl | rfl | rfl | rfl | rfl <;> rcases eo with rfl | rfl | rfl | rfl <;> rcases en with rfl | rfl | rfl | rfl <;> first | rfl | (exact absurd h (by decide))
    · have q : tk_np k v = tk_np k 0 := by unfold tk_np; rw [if_neg e17, if_neg e17]
      rw [q] at h
      rcases tk_kinds hk with rfl | rfl | rfl | rfl | rfl | rfl | rfl | rfl | rfl | rfl | rfl | rfl | rfl | rfl | rfl | rfl | rfl | rfl | rfl | rfl | rfl
      all_goals first
        | exact absurd rfl e17
        | (rcases eo with rfl | rfl | rfl | rfl <;> rcases en with rfl | rfl | rfl | rfl <;> first | rfl | (exact absurd h (by decide)))
  have hs := tk_np_sum hk
  rw [← key]
  unfold xe_4 xe_f
  by_cases h1 : tk_f k v + tk_c k v + tk_sn k ≤ n
  · rw [if_pos (by omega), if_pos h1]
  · rw [if_neg (by omega), if_neg h1]
    by_cases h2 : tk_f k v + tk_c k v ≤ n
    · rw [if_pos (by omega), if_pos h2]
    · rw [if_neg (by omega), if_neg h2]
      by_cases h3 : tk_f k v ≤ n
      · rw [if_pos (by omega), if_pos h3]
      · rw [if_neg (by omega), if_neg h3, if_pos (by omega)]
theorem xe_ch {k v ex : Nat → Int32} {i : Nat} {tl : List Nat} (hk : tk_ok (k i) (v i)) (hi : i < 900) (hR : xe_R k v ex tl) : ∀ n o, o + n = tk_np (k i) (v i) → xe_R k v (xe_4 ex tl.length (k i) (v i)) (ps_ch i o n ++ tl) := by
  have h4 := tk_np_le hk
  intro n
  induction n with
  | zero => intro o _; exact xe_keep tl (fun q hq => xe_4_lo hq) hR
  | succ n ih =>
    intro o ho
    refine ⟨?_, ih (o + 1) (by omega)⟩
    show xe_4 _ _ _ _ (ps_ch i (o + 1) n ++ tl).length = _
    rw [List.length_append, ps_ch_len, xe_4_at hk ho]
    unfold ps_wn
    rw [if_neg (by omega), show (4 * i + o) / 4 = i from by omega, show (4 * i + o) % 4 = o from by omega]

theorem tr_ca_ge {z : Nat → Int32} {i : Nat} : ∀ o, i < tr_ca z i o := by
  intro o
  induction o with
  | zero => exact Nat.lt_succ_self i
  | succ o ih => show i < _ + _; omega
theorem tr_ca_gcongr {z z' : Nat → Int32} {i : Nat} (h : ∀ q, i < q → z' q = z q) : ∀ o, tr_ca z' i o = tr_ca z i o := by
  intro o
  induction o with
  | zero => rfl
  | succ o ih => show _ + _ = _ + _; rw [ih, h _ (tr_ca_ge o)]
theorem ps_gd_congr {L : Nat} {k v z z' : Nat → Int32} {j : Nat} (h : ∀ q, j ≤ q → z' q = z q) (g : ps_gd L k v z j) : ps_gd L k v z' j := by
  obtain ⟨s, a, b, c, d, e⟩ := g
  exact ⟨s, a, b, (h j (Nat.le_refl _)).trans c, d, (tr_ca_gcongr (fun q hq => h q (by omega)) _).trans e⟩
section
variable {f_expectedCount f_draftLength f_latestPlace f_entryCount f_working f_ending f_endNote f_endValue f_sayCount f_stepCount f_tooLong f_latestResult f_latestKind : Int32} {a_tokenKind a_tokenValue a_tokenSize a_hasBody a_expected a_entryToken a_entryPhase a_keptEnding a_keptNote a_keptValue a_variables a_output : Nat → Int32} {k v : Nat → Int32} {d : Nat}
theorem qx_misfit {post : Int32 → SX → Prop} (hd : d ≤ 40) (ek : ∀ i, i < d → a_tokenKind (160 + i) = k i) (ev : ∀ i, i < d → a_tokenValue (160 + i) = v i) (H : ∀ i, i < d → tk_ok (k i) (v i)) (h : ∀ r ec ex, ps_ans k v d r → post r (ec, nI d, f_latestPlace, f_entryCount, f_working, f_ending, f_endNote, f_endValue, f_sayCount, f_stepCount, f_tooLong, f_latestResult, f_latestKind, a_tokenKind, a_tokenValue, a_tokenSize, a_hasBody, ex, a_entryToken, a_entryPhase, a_keptEnding, a_keptNote, a_keptValue, a_variables, a_output)) : wpX_firstMisfit post (f_expectedCount, nI d, f_latestPlace, f_entryCount, f_working, f_ending, f_endNote, f_endValue, f_sayCount, f_stepCount, f_tooLong, f_latestResult, f_latestKind, a_tokenKind, a_tokenValue, a_tokenSize, a_hasBody, a_expected, a_entryToken, a_entryPhase, a_keptEnding, a_keptNote, a_keptValue, a_variables, a_output) := by
  have Lp : ∀ m i ex, i + m = d → ps_ok k v i → xe_R k v ex (ps_st k v i) → wX_firstMisfit_13 post (m + 1) (nI i) (nI (ps_st k v i).length) (nI d) f_latestPlace f_entryCount f_working f_ending f_endNote f_endValue f_sayCount f_stepCount f_tooLong f_latestResult f_latestKind a_tokenKind a_tokenValue a_tokenSize a_hasBody ex a_entryToken a_entryPhase a_keptEnding a_keptNote a_keptValue a_variables a_output := by
    intro m
    induction m with
    | zero =>
      intro i ex hi hok hR
      have : i = d := by omega
      subst this
      refine br_t (nI_le (Nat.le_refl _) (by omega)) ?_
      have hl := ps_len H i (Nat.le_refl _) hok
      cases e : ps_st k v i with
      | nil => exact br_t rfl (h _ _ _ (Or.inr (Or.inr ⟨hok, e, rfl⟩)))
      | cons x xs => exact br_f (nI_ne0 (Nat.succ_pos _) (by rw [e] at hl; exact Nat.lt_of_le_of_lt hl (by omega))) (h _ _ _ (Or.inr (Or.inl ⟨hok, (by rw [e]; exact fun z => nomatch z), rfl⟩)))
    | succ m ih =>
      intro i ex hi hok hR
      have hl := ps_len H i (by omega) hok
      have e1 : (160 : Int32) + nI i = nI (160 + i) := nI_add 160 i
      have ec : ((160 : Int32) + nI i).toNatClampNeg = 160 + i := by rw [e1]; exact nI_clamp (by omega)
      have ei : vp_in ((160 : Int32) + nI i) 200 := by rw [e1]; exact vp_in_nI (by omega) (by decide)
      have hk := H i (by omega)
      refine br_f (nI_ge (by omega) (by omega)) ⟨ei, nm_r (e' := k i) (by rw [ec, ek i (by omega)]) ?_⟩
      cases e : ps_st k v i with
      | nil => exact br_t rfl (h _ _ _ (Or.inl ⟨i, by omega, hok, (by rintro ⟨x, xs, e', _⟩; rw [e] at e'; exact nomatch e'), rfl⟩))
      | cons x xs =>
        rw [e] at hl hR
        have hl' : xs.length + 1 ≤ 1 + 3 * i := hl
        have e3 : nI (x :: xs).length - 1 = nI xs.length := nI_pred xs.length
        refine br_f (nI_ne0 (Nat.succ_pos _) (by show xs.length + 1 < _; omega)) ⟨by rw [e3]; exact vp_in_nI (by omega) (by decide), qx_sort hk ?_⟩
        have e4 : ex (nI (x :: xs).length - 1).toNatClampNeg = nI (ps_wn k v x + 1) := by rw [e3, nI_clamp (by omega)]; exact hR.1
        have hw : ps_wn k v x < 3 := ps_wn_lt
        have hs : tk_so (k i) < 3 := tk_so_lt
        by_cases hf : tk_so (k i) = ps_wn k v x
        · refine br_t (e4.trans (by rw [hf])) (nm_r e3 ⟨ei, ?_⟩)
          rw [ec, ev i (by omega)]
          have h4 := tk_np_le hk
          refine qx_expectParts hk (by omega) (nm_r (nI_1 i) ?_)
          have el : xs.length + tk_np (k i) (v i) = (ps_st k v (i + 1)).length := by
            show _ = (ps_ch i 0 _ ++ (ps_st k v i).tail).length
            rw [List.length_append, ps_ch_len, e]
            show _ = _ + xs.length
            omega
          rw [el]
          refine ih (i + 1) _ (by omega) (fun j hj => ?_) ?_
          · by_cases ej : j = i
            · subst ej; exact ⟨x, xs, e, hf⟩
            · exact hok j (by omega)
          · have := xe_ch (i := i) hk (by omega) hR.2 (tk_np (k i) (v i)) 0 (by omega)
            show xe_R k v _ (ps_ch i 0 _ ++ (ps_st k v i).tail)
            rw [e]
            exact this
        · refine br_f (fun z => hf ?_) (h _ _ _ (Or.inl ⟨i, by omega, hok, ?_, rfl⟩))
          · have := (nI_eq (by omega) (by omega)).mp (e4.symm.trans z)
            omega
          · rintro ⟨y, ys, e', hy⟩
            rw [e] at e'
            have := (List.cons.inj e').1
            subst this
            exact hf hy
  unfold wpX_firstMisfit
  refine qx_expect (c := 0) (n := 1) (s := 2) (by omega) ⟨d + 1, ?_⟩
  exact Lp d 0 _ (by omega) (fun j hj => by omega) ⟨if_pos (by decide), trivial⟩
theorem qx_measure {post : SX → Prop} (hd : d ≤ 40) (ek : ∀ i, i < d → a_tokenKind (160 + i) = k i) (ev : ∀ i, i < d → a_tokenValue (160 + i) = v i) (H : ∀ i, i < d → tk_ok (k i) (v i)) (hE : ps_st k v d = []) (h : ∀ Z : Nat → Int32, (∀ j, j < 160 → Z j = a_tokenSize j) → (∀ j, j < d → ps_gd d k v (fun i => Z (160 + i)) j) → post (f_expectedCount, nI d, f_latestPlace, f_entryCount, f_working, f_ending, f_endNote, f_endValue, f_sayCount, f_stepCount, f_tooLong, f_latestResult, f_latestKind, a_tokenKind, a_tokenValue, Z, a_hasBody, a_expected, a_entryToken, a_entryPhase, a_keptEnding, a_keptNote, a_keptValue, a_variables, a_output)) : wpX_measureDraft post (f_expectedCount, nI d, f_latestPlace, f_entryCount, f_working, f_ending, f_endNote, f_endValue, f_sayCount, f_stepCount, f_tooLong, f_latestResult, f_latestKind, a_tokenKind, a_tokenValue, a_tokenSize, a_hasBody, a_expected, a_entryToken, a_entryPhase, a_keptEnding, a_keptNote, a_keptValue, a_variables, a_output) := by
  have Lp : ∀ m (Z : Nat → Int32), m ≤ d → (∀ j, j < 160 → Z j = a_tokenSize j) → (∀ j, m ≤ j → j < d → ps_gd d k v (fun i => Z (160 + i)) j) → wX_measureDraft_7 post f_expectedCount (nI d) f_latestPlace f_entryCount f_working f_ending f_endNote f_endValue f_sayCount f_stepCount f_tooLong f_latestResult f_latestKind (m + 1) (nI m + (-1)) a_tokenKind a_tokenValue Z a_hasBody a_expected a_entryToken a_entryPhase a_keptEnding a_keptNote a_keptValue a_variables a_output := by
    intro m
    induction m with
    | zero => intro Z _ h1 h2; exact br_t (by decide) (h Z h1 (fun j hj => h2 j (by omega) hj))
    | succ m ih =>
      intro Z hm h1 h2
      rw [pk_m1]
      have G : ∀ j, m < j → j < d → ps_gd d k v (fun i => Z (160 + i)) j := fun j a b => h2 j (by omega) b
      have C := ps_child hd hE (i := m) (by omega) G
      obtain ⟨c1, c2, _, _⟩ := C _ (Nat.le_refl _)
      have ek' := ek m (by omega)
      have ev' := ev m (by omega)
      refine br_f (nI_pos (by omega)) (nm_r (e' := nI (160 + m)) (nI_add 160 m) (qx_parts (j := 160 + m) (by omega) (by rw [ek', ev']; exact H m (by omega)) ?_))
      have h4 := tk_np_le (H m (by omega))
      rw [ek', ev']
      refine qx_partAt (b := 160) (i := m) (fun q hq => ?_) (by omega) ⟨vp_in_nI (by omega) (by decide), ?_⟩
      · obtain ⟨a1, a2, a3, a4⟩ := C q (by omega)
        obtain ⟨s, s1, s2, s3, _⟩ := G _ a1 (a4 hq)
        exact ⟨s, by have := a4 hq; omega, s3, by omega⟩
      · refine nm_r (e' := upd Z (160 + m) (nI (tr_ca (fun i => Z (160 + i)) m (tk_np (k m) (v m)) - m))) ?_ (nm_e (ih _ (by omega) (fun j hj => (pk_un (by omega)).trans (h1 j hj)) (fun j hj hjd => ?_)))
        · rw [nI_clamp (by omega), pk_sub (by omega)]
          exact congrArg (fun x => upd Z (160 + m) (nI x)) (by omega)
        · by_cases e : j = m
          · subst e
            have hz : ∀ q, j < q → upd Z (160 + j) (nI (tr_ca (fun i => Z (160 + i)) j (tk_np (k j) (v j)) - j)) (160 + q) = Z (160 + q) := fun q hq => pk_un (by omega)
            refine ps_gd_new hd hE hjd (fun q h3 h5 => ps_gd_congr (fun p hp => hz p (by omega)) (G q h3 h5)) ?_
            show upd Z (160 + j) _ (160 + j) = _
            rw [pk_us, tr_ca_gcongr hz]
          · exact ps_gd_congr (fun q hq => pk_un (by omega)) (G j (by omega) hjd)
  refine nm_r (e' := nI d + (-1)) ?_ ⟨d + 1, Lp d a_tokenSize (Nat.le_refl _) (fun _ _ => rfl) (fun j a b => by omega)⟩
  rw [Int32.sub_eq_add_neg]
end
end
section
/-- the first place where P holds, or -1 -/
def ub_ans (P : Nat → Prop) (d : Nat) (r : Int32) : Prop := (∃ i, i < d ∧ P i ∧ (∀ j, j < i → ¬ P j) ∧ r = nI i) ∨ ((∀ j, j < d → ¬ P j) ∧ r = -1)
theorem ub_one {P Q : Nat → Prop} {d : Nat} {r r' : Int32} (hPQ : ∀ i, i < d → (P i ↔ Q i)) (h : ub_ans P d r) (h' : ub_ans Q d r') : r' = r := by
  rcases h with ⟨i, hi, a, b, rfl⟩ | ⟨a, rfl⟩ <;> rcases h' with ⟨i', hi', a', b', rfl⟩ | ⟨a', rfl⟩
  · rcases Nat.lt_trichotomy i i' with z | z | z
    · exact (b' i z ((hPQ i hi).mp a)).elim
    · rw [z]
    · exact (b i' z ((hPQ i' hi').mpr a')).elim
  · exact (a' i hi ((hPQ i hi).mp a)).elim
  · exact (a i' hi' ((hPQ i' hi').mpr a')).elim
  · rfl
/-- a loop with this label lies around i, by the sizes -/
def ub_in (k v z : Nat → Int32) (lab : Int32) (i : Nat) : Prop := ∃ j, j < i ∧ i < j + (z j).toNatClampNeg ∧ tr_m k v lab j
/-- a copy of n cells from s on to b on, each by g -/
def cp_n (g : Int32 → Int32) (K : Nat → Int32) (s b n : Nat) : Nat → Int32 := fun j => if b ≤ j ∧ j < b + n then g (K (s + (j - b))) else K j
theorem cp_0 {g : Int32 → Int32} {K : Nat → Int32} {s b : Nat} : cp_n g K s b 0 = K := by
  funext j
  exact if_neg (by omega)
theorem cp_s {g : Int32 → Int32} {K : Nat → Int32} {s b n : Nat} (h : b + n < s) : upd (cp_n g K s b n) (b + n) (g (cp_n g K s b n (s + n))) = cp_n g K s b (n + 1) := by
  funext j
  unfold upd cp_n
  by_cases e : j = b + n
  · rw [if_pos e, if_neg (by omega), if_pos (by omega), e]
    exact congrArg (fun x => g (K x)) (by omega)
  · rw [if_neg e]
    by_cases e2 : b ≤ j ∧ j < b + n
    · rw [if_pos e2, if_pos (by omega)]
    · rw [if_neg e2, if_neg (by omega)]
theorem cp_at {g : Int32 → Int32} {K : Nat → Int32} {s b n i : Nat} (h : i < n) : cp_n g K s b n (b + i) = g (K (s + i)) := by
  unfold cp_n
  rw [if_pos (by omega)]
  exact congrArg (fun x => g (K x)) (by omega)
theorem cp_out {g : Int32 → Int32} {K : Nat → Int32} {s b n j : Nat} (h : j < b ∨ b + n ≤ j) : cp_n g K s b n j = K j := if_neg (by omega)
section
variable {f_expectedCount f_draftLength f_latestPlace f_entryCount f_working f_ending f_endNote f_endValue f_sayCount f_stepCount f_tooLong f_latestResult f_latestKind : Int32} {a_tokenKind a_tokenValue a_tokenSize a_hasBody a_expected a_entryToken a_entryPhase a_keptEnding a_keptNote a_keptValue a_variables a_output : Nat → Int32} {k v z : Nat → Int32} {d : Nat}
theorem qx_isBound {post : Int32 → Prop} (hd : d ≤ 40) (ek : ∀ i, i < d → a_tokenKind (160 + i) = k i) (ev : ∀ i, i < d → a_tokenValue (160 + i) = v i) (ez : ∀ i, i < d → a_tokenSize (160 + i) = z i) (hz : ∀ i, i < d → ∃ s, z i = nI s ∧ s ≤ 40) {i : Nat} (hi : i < d) (h1 : ub_in k v z (v i) i → post 1) (h0 : ¬ ub_in k v z (v i) i → post 0) : wpX_isBound post (f_expectedCount, f_draftLength, f_latestPlace, f_entryCount, f_working, f_ending, f_endNote, f_endValue, f_sayCount, f_stepCount, f_tooLong, f_latestResult, f_latestKind, a_tokenKind, a_tokenValue, a_tokenSize, a_hasBody, a_expected, a_entryToken, a_entryPhase, a_keptEnding, a_keptNote, a_keptValue, a_variables, a_output) (nI i) := by
  have e1 : ∀ j, j < d → (160 : Int32) + nI j = nI (160 + j) := fun j _ => nI_add 160 j
  have ec : ∀ j, j < d → ((160 : Int32) + nI j).toNatClampNeg = 160 + j := fun j hj => by rw [e1 j hj]; exact nI_clamp (by omega)
  have ei : ∀ j, j < d → vp_in ((160 : Int32) + nI j) 200 := fun j hj => by rw [e1 j hj]; exact vp_in_nI (by omega) (by decide)
  have Lp : ∀ m j, j + m = i → (∀ q, q < j → ¬ (i < q + (z q).toNatClampNeg ∧ tr_m k v (v i) q)) → wX_isBound_13 post (nI i) (v i) f_expectedCount f_draftLength f_latestPlace f_entryCount f_working f_ending f_endNote f_endValue f_sayCount f_stepCount f_tooLong f_latestResult f_latestKind a_tokenKind a_tokenValue a_tokenSize a_hasBody a_expected a_entryToken a_entryPhase a_keptEnding a_keptNote a_keptValue a_variables a_output (m + 1) (nI j) := by
    intro m
    induction m with
    | zero =>
      intro j hj hn
      have : j = i := by omega
      subst this
      exact br_t (nI_le (Nat.le_refl _) (by omega)) (h0 (fun ⟨q, a, b⟩ => hn q a b))
    | succ m ih =>
      intro j hj hn
      obtain ⟨s, es, hs⟩ := hz j (by omega)
      have ecz : (z j).toNatClampNeg = s := by rw [es]; exact nI_clamp (by omega)
      have nx : ¬ (i < j + (z j).toNatClampNeg ∧ tr_m k v (v i) j) → wX_isBound_13 post (nI i) (v i) f_expectedCount f_draftLength f_latestPlace f_entryCount f_working f_ending f_endNote f_endValue f_sayCount f_stepCount f_tooLong f_latestResult f_latestKind a_tokenKind a_tokenValue a_tokenSize a_hasBody a_expected a_entryToken a_entryPhase a_keptEnding a_keptNote a_keptValue a_variables a_output (m + 1) (nI (j + 1)) := fun hc => ih (j + 1) (by omega) (fun q hq => by
        by_cases e : q = j
        · subst e; exact hc
        · exact hn q (by omega))
      refine br_f (nI_ge (by omega) (by omega)) ⟨ei j (by omega), ?_⟩
      have esum : nI j + a_tokenSize ((160 : Int32) + nI j).toNatClampNeg = nI (j + s) := by rw [ec j (by omega), ez j (by omega), es, nI_add]
      refine pk_le (j + s) i (fun hle => br_t rfl (nm_r (nI_1 j) (nx (by rw [ecz]; omega)))) (fun hgt => br_f (by decide) ⟨ei j (by omega), ?_⟩) esum rfl
      rw [ec j (by omega), ek j (by omega), ev j (by omega)]
      refine br_c (fun hk => ⟨ei j (by omega), br_c (fun hv => h1 ⟨j, by omega, by omega, hk, hv⟩) (fun hv => nm_r (nI_1 j) (nx (fun z => hv z.2.2)))⟩) (fun hk => nm_r (nI_1 j) (nx (fun z => hk z.2.1)))
  refine ⟨ei i hi, nm_r (e' := v i) (by rw [ec i hi, ev i hi]) ⟨i + 1, Lp i 0 (by omega) (fun q hq => by omega)⟩⟩
theorem qx_unbound {post : Int32 → Prop} (hd : d ≤ 40) (ek : ∀ i, i < d → a_tokenKind (160 + i) = k i) (ev : ∀ i, i < d → a_tokenValue (160 + i) = v i) (ez : ∀ i, i < d → a_tokenSize (160 + i) = z i) (hz : ∀ i, i < d → ∃ s, z i = nI s ∧ s ≤ 40) (h : ∀ r, ub_ans (fun i => (k i = 19 ∨ k i = 20) ∧ ¬ ub_in k v z (v i) i) d r → post r) : wpX_firstUnbound post (f_expectedCount, nI d, f_latestPlace, f_entryCount, f_working, f_ending, f_endNote, f_endValue, f_sayCount, f_stepCount, f_tooLong, f_latestResult, f_latestKind, a_tokenKind, a_tokenValue, a_tokenSize, a_hasBody, a_expected, a_entryToken, a_entryPhase, a_keptEnding, a_keptNote, a_keptValue, a_variables, a_output) := by
  have Lp : ∀ m i, i + m = d → (∀ j, j < i → ¬ ((k j = 19 ∨ k j = 20) ∧ ¬ ub_in k v z (v j) j)) → wX_firstUnbound_2 post f_expectedCount (nI d) f_latestPlace f_entryCount f_working f_ending f_endNote f_endValue f_sayCount f_stepCount f_tooLong f_latestResult f_latestKind a_tokenKind a_tokenValue a_tokenSize a_hasBody a_expected a_entryToken a_entryPhase a_keptEnding a_keptNote a_keptValue a_variables a_output (m + 1) (nI i) := by
    intro m
    induction m with
    | zero =>
      intro i hi hn
      have : i = d := by omega
      subst this
      exact br_t (nI_le (Nat.le_refl _) (by omega)) (h _ (Or.inr ⟨hn, rfl⟩))
    | succ m ih =>
      intro i hi hn
      have nx : ¬ ((k i = 19 ∨ k i = 20) ∧ ¬ ub_in k v z (v i) i) → wX_firstUnbound_2 post f_expectedCount (nI d) f_latestPlace f_entryCount f_working f_ending f_endNote f_endValue f_sayCount f_stepCount f_tooLong f_latestResult f_latestKind a_tokenKind a_tokenValue a_tokenSize a_hasBody a_expected a_entryToken a_entryPhase a_keptEnding a_keptNote a_keptValue a_variables a_output (m + 1) (nI (i + 1)) := fun hc => ih (i + 1) (by omega) (fun q hq => by
        by_cases e : q = i
        · subst e; exact hc
        · exact hn q (by omega))
      have e1 : (160 : Int32) + nI i = nI (160 + i) := nI_add 160 i
      have ec : ((160 : Int32) + nI i).toNatClampNeg = 160 + i := by rw [e1]; exact nI_clamp (by omega)
      have ei : vp_in ((160 : Int32) + nI i) 200 := by rw [e1]; exact vp_in_nI (by omega) (by decide)
      have jump : (k i = 19 ∨ k i = 20) → wX_firstUnbound_33 post (wX_firstUnbound_2 post f_expectedCount (nI d) f_latestPlace f_entryCount f_working f_ending f_endNote f_endValue f_sayCount f_stepCount f_tooLong f_latestResult f_latestKind a_tokenKind a_tokenValue a_tokenSize a_hasBody a_expected a_entryToken a_entryPhase a_keptEnding a_keptNote a_keptValue a_variables a_output (m + 1)) (nI i) f_expectedCount (nI d) f_latestPlace f_entryCount f_working f_ending f_endNote f_endValue f_sayCount f_stepCount f_tooLong f_latestResult f_latestKind a_tokenKind a_tokenValue a_tokenSize a_hasBody a_expected a_entryToken a_entryPhase a_keptEnding a_keptNote a_keptValue a_variables a_output := fun hj =>
        qx_isBound hd ek ev ez hz (i := i) (by omega) (fun hb => br_f (by decide) (nm_r (nI_1 i) (nx (fun z => z.2 hb)))) (fun hb => br_t rfl (h _ (Or.inl ⟨i, by omega, ⟨hj, hb⟩, hn, rfl⟩)))
      exact br_f (nI_ge (by omega) (by omega)) ⟨ei, nm_r (e' := k i) (by rw [ec, ek i (by omega)]) (br_c (fun a => jump (Or.inl a)) (fun a => br_c (fun b => jump (Or.inr b)) (fun b => nm_r (nI_1 i) (nx (fun z => z.1.elim a b)))))⟩
  exact ⟨d + 1, Lp d 0 (by omega) (fun q hq => by omega)⟩
theorem qx_copy {post : SX → Prop} {f : Nat} (hf : f < 4) (hd : d ≤ 40) (h : post (f_expectedCount, nI d, f_latestPlace, f_entryCount, f_working, f_ending, f_endNote, f_endValue, f_sayCount, f_stepCount, f_tooLong, f_latestResult, f_latestKind, cp_n id a_tokenKind 160 (40 * f) d, cp_n id a_tokenValue 160 (40 * f) d, cp_n id a_tokenSize 160 (40 * f) d, upd a_hasBody f 1, a_expected, a_entryToken, a_entryPhase, a_keptEnding, a_keptNote, a_keptValue, a_variables, a_output)) : wpX_copyDraft post (f_expectedCount, nI d, f_latestPlace, f_entryCount, f_working, f_ending, f_endNote, f_endValue, f_sayCount, f_stepCount, f_tooLong, f_latestResult, f_latestKind, a_tokenKind, a_tokenValue, a_tokenSize, a_hasBody, a_expected, a_entryToken, a_entryPhase, a_keptEnding, a_keptNote, a_keptValue, a_variables, a_output) (nI f) := by
  have Lp : ∀ m i, i + m = d → wX_copyDraft_7 post (nI f) (nI (40 * f)) f_expectedCount (nI d) f_latestPlace f_entryCount f_working f_ending f_endNote f_endValue f_sayCount f_stepCount f_tooLong f_latestResult f_latestKind (m + 1) (nI i) (cp_n id a_tokenKind 160 (40 * f) i) (cp_n id a_tokenValue 160 (40 * f) i) (cp_n id a_tokenSize 160 (40 * f) i) a_hasBody a_expected a_entryToken a_entryPhase a_keptEnding a_keptNote a_keptValue a_variables a_output := by
    intro m
    induction m with
    | zero =>
      intro i hi
      have : i = d := by omega
      subst this
      exact br_t (nI_le (Nat.le_refl _) (by omega)) ⟨vp_in_nI hf (by decide), nm_r (by rw [nI_clamp (by omega)]; rfl) h⟩
    | succ m ih =>
      intro i hi
      have e1 : (160 : Int32) + nI i = nI (160 + i) := nI_add 160 i
      have ec : ((160 : Int32) + nI i).toNatClampNeg = 160 + i := by rw [e1]; exact nI_clamp (by omega)
      have ei : vp_in ((160 : Int32) + nI i) 200 := by rw [e1]; exact vp_in_nI (by omega) (by decide)
      have e2 : nI (40 * f) + nI i = nI (40 * f + i) := nI_add _ i
      have ec2 : (nI (40 * f) + nI i).toNatClampNeg = 40 * f + i := by rw [e2]; exact nI_clamp (by omega)
      have ei2 : vp_in (nI (40 * f) + nI i) 200 := by rw [e2]; exact vp_in_nI (by omega) (by decide)
      refine br_f (nI_ge (by omega) (by omega)) ⟨ei, ei2, nm_r ?_ ⟨ei, ei2, nm_r ?_ ⟨ei, ei2, nm_r ?_ (nm_r (nI_1 i) (ih (i + 1) (by omega)))⟩⟩⟩
      all_goals
        rw [ec, ec2]
        exact cp_s (g := id) (by omega)
  refine nm_r (e' := nI (40 * f)) (by rw [Nat.mul_comm]; exact pk_mul f 40) ⟨d + 1, ?_⟩
  have := Lp d 0 (by omega)
  simp only [cp_0] at this
  exact this
/-- X's define at a function's number: what it may answer, and in which state it ends -/
theorem qx_define {post : Int32 → SX → Prop} {f : Nat} (hf : f < 4) (hd : d ≤ 40) (ek : ∀ i, i < d → a_tokenKind (160 + i) = k i) (ev : ∀ i, i < d → a_tokenValue (160 + i) = v i) (H : ∀ i, i < d → tk_ok (k i) (v i))
    (hA : ∀ r ec ex, ps_ans k v d r → r ≠ -1 → post 1 (ec, 0, r, f_entryCount, f_working, f_ending, f_endNote, f_endValue, f_sayCount, f_stepCount, f_tooLong, f_latestResult, f_latestKind, a_tokenKind, a_tokenValue, a_tokenSize, a_hasBody, ex, a_entryToken, a_entryPhase, a_keptEnding, a_keptNote, a_keptValue, a_variables, a_output))
    (hB : ∀ r ec ex Z, ps_ok k v d → ps_st k v d = [] → (∀ j, j < 160 → Z j = a_tokenSize j) → (∀ j, j < d → ps_gd d k v (fun i => Z (160 + i)) j) → ub_ans (fun i => (k i = 19 ∨ k i = 20) ∧ ¬ ub_in k v (fun i => Z (160 + i)) (v i) i) d r → r ≠ -1 → post 2 (ec, 0, r, f_entryCount, f_working, f_ending, f_endNote, f_endValue, f_sayCount, f_stepCount, f_tooLong, f_latestResult, f_latestKind, a_tokenKind, a_tokenValue, Z, a_hasBody, ex, a_entryToken, a_entryPhase, a_keptEnding, a_keptNote, a_keptValue, a_variables, a_output))
    (hC : ∀ ec ex Z, ps_ok k v d → ps_st k v d = [] → (∀ j, j < 160 → Z j = a_tokenSize j) → (∀ j, j < d → ps_gd d k v (fun i => Z (160 + i)) j) → ub_ans (fun i => (k i = 19 ∨ k i = 20) ∧ ¬ ub_in k v (fun i => Z (160 + i)) (v i) i) d (-1) → post 0 (ec, 0, -1, f_entryCount, f_working, f_ending, f_endNote, f_endValue, f_sayCount, f_stepCount, f_tooLong, f_latestResult, f_latestKind, cp_n id a_tokenKind 160 (40 * f) d, cp_n id a_tokenValue 160 (40 * f) d, cp_n id Z 160 (40 * f) d, upd a_hasBody f 1, ex, a_entryToken, a_entryPhase, a_keptEnding, a_keptNote, a_keptValue, a_variables, a_output)) : wpX_define post (f_expectedCount, nI d, f_latestPlace, f_entryCount, f_working, f_ending, f_endNote, f_endValue, f_sayCount, f_stepCount, f_tooLong, f_latestResult, f_latestKind, a_tokenKind, a_tokenValue, a_tokenSize, a_hasBody, a_expected, a_entryToken, a_entryPhase, a_keptEnding, a_keptNote, a_keptValue, a_variables, a_output) (nI f) := by
  unfold wpX_define
  refine qx_isF hf (br_f (by decide) ?_)
  unfold wpX_judgeDraft
  refine qx_misfit hd ek ev H (fun r ec ex ha => ?_)
  by_cases hr : r = -1
  · subst hr
    have hg : ps_ok k v d ∧ ps_st k v d = [] := by
      rcases ha with ⟨i, hi, _, _, e⟩ | ⟨_, _, e⟩ | ⟨a, b, _⟩
      · exact (qb_ne_m1 (by omega) e.symm).elim
      · exact (qb_ne_m1 (by omega) e.symm).elim
      · exact ⟨a, b⟩
    refine br_t rfl (qx_measure hd ek ev H hg.2 (fun Z hZ hG => ?_))
    refine qx_unbound (z := fun i => Z (160 + i)) hd ek ev (fun _ _ => rfl) (fun i hi => ?_) (fun r hu => ?_)
    · obtain ⟨s, s1, s2, s3, _⟩ := hG i hi
      exact ⟨s, s3, by omega⟩
    · by_cases h1 : r = -1
      · subst h1
        exact br_t rfl (br_t rfl (qx_copy hf hd (hC _ _ Z hg.1 hg.2 hZ hG hu)))
      · exact br_f h1 (br_f (by decide) (hB _ _ _ Z hg.1 hg.2 hZ hG hu h1))
  · exact br_f hr (br_f (by decide) (hA _ _ _ ha hr))
end
end
section
def yo_c (x : Nat) : Int32 := if x = 4000 then -1 else nI x
/-- the stack of the places that are wanting -/
def yo_R (op : Nat → Int32) : List Nat → Prop
  | [] => True
  | x :: xs => op xs.length = yo_c x ∧ yo_R op xs
theorem yo_keep {op op' : Nat → Int32} : ∀ l : List Nat, (∀ q, q < l.length → op' q = op q) → yo_R op l → yo_R op' l := by
  intro l
  induction l with
  | nil => intro _ _; trivial
  | cons x xs ih => intro h hr; exact ⟨(h _ (Nat.lt_succ_self _)).trans hr.1, ih (fun q hq => h q (Nat.lt_succ_of_lt hq)) hr.2⟩
/-- j of the n parts of token i are laid from place c on -/
def yo_f (op : Nat → Int32) (c j n i : Nat) : Nat → Int32 := fun q => if c ≤ q ∧ q < c + j then nI (4 * i + (c + n - 1 - q)) else op q
theorem yo_ch {op : Nat → Int32} {i n : Nat} {tl : List Nat} (hi : i < 900) (hn : n ≤ 4) (hR : yo_R op tl) : ∀ m o, o + m = n → yo_R (yo_f op tl.length n n i) (ps_ch i o m ++ tl) := by
  intro m
  induction m with
  | zero => intro o _; exact yo_keep tl (fun q hq => if_neg (by omega)) hR
  | succ m ih =>
    intro o ho
    refine ⟨?_, ih (o + 1) (by omega)⟩
    show yo_f _ _ _ _ _ (ps_ch i (o + 1) m ++ tl).length = _
    rw [List.length_append, ps_ch_len]
    unfold yo_f yo_c
    rw [if_pos (by omega), if_neg (by omega)]
    exact congrArg nI (by omega)
section
variable {f_place f_top f_held f_depth f_ended f_endTarget f_endKind f_endWorth f_steps f_says f_result f_thrown f_over : Int32} {a_kind a_up a_length a_value a_below a_open a_token a_height a_target a_phase a_how a_kinds a_worth a_values a_variables a_begun a_output : Nat → Int32} {k v : Nat → Int32} {d : Nat}
theorem qy_166 {post : Int32 → SY → Prop} {J : Int32 → Int32 → (Nat → Int32) → (Nat → Int32) → (Nat → Int32) → (Nat → Int32) → (Nat → Int32) → (Nat → Int32) → (Nat → Int32) → (Nat → Int32) → (Nat → Int32) → (Nat → Int32) → (Nat → Int32) → (Nat → Int32) → (Nat → Int32) → (Nat → Int32) → (Nat → Int32) → (Nat → Int32) → (Nat → Int32) → Prop} {c n i : Nat} (hc : c + n ≤ 130) (hi : i < 40) (hn : n ≤ 4) (h : J (nI (c + n)) (nI (i + 1)) a_kind a_up a_length a_value a_below (yo_f a_open c n n i) a_token a_height a_target a_phase a_how a_kinds a_worth a_values a_variables a_begun a_output) : ∀ m j, j + m = n → wY_shape_166 post J (nI i) f_place f_top f_held f_depth f_ended f_endTarget f_endKind f_endWorth f_steps f_says f_result f_thrown f_over (m + 1) (nI (c + j)) (nI m + (-1)) a_kind a_up a_length a_value a_below (yo_f a_open c j n i) a_token a_height a_target a_phase a_how a_kinds a_worth a_values a_variables a_begun a_output := by
  intro m
  induction m with
  | zero =>
    intro j hj
    have : j = n := by omega
    subst this
    exact br_t (by decide) (nm_r (nI_1 i) h)
  | succ m ih =>
    intro j hj
    rw [pk_m1]
    refine br_f (nI_pos (by omega)) (nm_r (e' := nI (c + (j + 1))) (nI_1 _) ⟨vp_in_nI (by omega) (by decide), nm_r (e' := yo_f a_open c (j + 1) n i) ?_ (nm_e (ih (j + 1) (by omega)))⟩)
    have e : (4 : Int32) * nI i + nI m = nI (4 * i + m) := by rw [show (4 : Int32) * nI i = nI (4 * i) from pk_mul 4 i, nI_add]
    rw [e, qb_ns16 (by omega), nI_clamp (by omega)]
    funext q
    unfold upd yo_f
    by_cases eq : q = c + j
    · rw [if_pos eq, if_pos (by omega)]
      exact congrArg nI (by omega)
    · rw [if_neg eq]
      by_cases e2 : c ≤ q ∧ q < c + j
      · rw [if_pos e2, if_pos (by omega)]
      · rw [if_neg e2, if_neg (by omega)]
theorem qy_143 {post : Int32 → SY → Prop} {J : Int32 → Int32 → (Nat → Int32) → (Nat → Int32) → (Nat → Int32) → (Nat → Int32) → (Nat → Int32) → (Nat → Int32) → (Nat → Int32) → (Nat → Int32) → (Nat → Int32) → (Nat → Int32) → (Nat → Int32) → (Nat → Int32) → (Nat → Int32) → (Nat → Int32) → (Nat → Int32) → (Nat → Int32) → (Nat → Int32) → Prop} {c i : Nat} {kk vv : Int32} (hk : tk_ok kk vv) (hc : c + tk_np kk vv ≤ 130) (hi : i < 40) (ev : a_value (160 + i) = vv) (h : J (nI (c + tk_np kk vv)) (nI (i + 1)) a_kind a_up a_length a_value a_below (yo_f a_open c (tk_np kk vv) (tk_np kk vv) i) a_token a_height a_target a_phase a_how a_kinds a_worth a_values a_variables a_begun a_output) : wY_shape_143 post J (nI c) (nI i) kk f_place f_top f_held f_depth f_ended f_endTarget f_endKind f_endWorth f_steps f_says f_result f_thrown f_over a_kind a_up a_length a_value a_below a_open a_token a_height a_target a_phase a_how a_kinds a_worth a_values a_variables a_begun a_output := by
  have e1 : (160 : Int32) + nI i = nI (160 + i) := nI_add 160 i
  have ec : ((160 : Int32) + nI i).toNatClampNeg = 160 + i := by rw [e1]; exact nI_clamp (by omega)
  have ei : vp_in ((160 : Int32) + nI i) 200 := by rw [e1]; exact vp_in_nI (by omega) (by decide)
  refine ⟨ei, ?_⟩
  rw [ec, ev]
  refine qy_op hk (nm_r (e' := nI (tk_np kk vv) + (-1)) (by rw [Int32.sub_eq_add_neg]) ⟨tk_np kk vv + 1, ?_⟩)
  have : wY_shape_166 post J (nI i) f_place f_top f_held f_depth f_ended f_endTarget f_endKind f_endWorth f_steps f_says f_result f_thrown f_over (tk_np kk vv + 1) (nI (c + 0)) (nI (tk_np kk vv) + (-1)) a_kind a_up a_length a_value a_below (yo_f a_open c 0 (tk_np kk vv) i) a_token a_height a_target a_phase a_how a_kinds a_worth a_values a_variables a_begun a_output := qy_166 hc hi (tk_np_le hk) h (tk_np kk vv) 0 (by omega)
  have e0 : yo_f a_open c 0 (tk_np kk vv) i = a_open := by funext q; exact if_neg (by omega)
  rw [e0] at this
  exact this
theorem qy_shape {post : Int32 → SY → Prop} (hd : d ≤ 40) (hl : a_length 4 = nI d) (ek : ∀ i, i < d → a_kind (160 + i) = k i) (ev : ∀ i, i < d → a_value (160 + i) = v i) (H : ∀ i, i < d → tk_ok (k i) (v i)) (h : ∀ (r : Int32) (U B O : Nat → Int32), ps_ans k v d r → (∀ j, j < 160 → U j = a_up j) → (∀ j, j < 640 → B j = a_below j) → (r = -1 → ∀ j, j < d → ps_y k v (fun i => U (160 + i)) (fun j => B (640 + j)) j) → post r (f_place, f_top, f_held, f_depth, f_ended, f_endTarget, f_endKind, f_endWorth, f_steps, f_says, f_result, f_thrown, f_over, a_kind, U, a_length, a_value, B, O, a_token, a_height, a_target, a_phase, a_how, a_kinds, a_worth, a_values, a_variables, a_begun, a_output)) : wpY_shape post (f_place, f_top, f_held, f_depth, f_ended, f_endTarget, f_endKind, f_endWorth, f_steps, f_says, f_result, f_thrown, f_over, a_kind, a_up, a_length, a_value, a_below, a_open, a_token, a_height, a_target, a_phase, a_how, a_kinds, a_worth, a_values, a_variables, a_begun, a_output) := by
  have Lp : ∀ m i (U B O : Nat → Int32), i + m = d → ps_ok k v i → yo_R O (ps_st k v i) → (∀ j, j < 160 → U j = a_up j) → (∀ j, j < 640 → B j = a_below j) → (∀ j, j < i → ps_y k v (fun i => U (160 + i)) (fun j => B (640 + j)) j) → wY_shape_11 post f_place f_top f_held f_depth f_ended f_endTarget f_endKind f_endWorth f_steps f_says f_result f_thrown f_over (m + 1) (nI (ps_st k v i).length) (nI i) a_kind U a_length a_value B O a_token a_height a_target a_phase a_how a_kinds a_worth a_values a_variables a_begun a_output := by
    intro m
    induction m with
    | zero =>
      intro i U B O hi hok hR hU hB hY
      have : i = d := by omega
      subst this
      have hlen := ps_len H i (Nat.le_refl _) hok
      refine br_t (by rw [hl]; exact nI_le (Nat.le_refl _) (by omega)) ?_
      cases e : ps_st k v i with
      | nil => exact br_t (by decide) (h _ _ _ _ (Or.inr (Or.inr ⟨hok, e, rfl⟩)) hU hB (fun _ => hY))
      | cons x xs =>
        rw [e] at hlen
        refine br_f (nI_nle (Nat.succ_pos _) (by show xs.length + 1 < _; have : xs.length + 1 ≤ 1 + 3 * i := hlen; omega)) (h _ _ _ _ (Or.inr (Or.inl ⟨hok, (by rw [e]; exact fun z => nomatch z), hl⟩)) hU hB (fun z => ?_))
        rw [hl] at z
        exact (qb_ne_m1 (by omega) z).elim
    | succ m ih =>
      intro i U B O hi hok hR hU hB hY
      have hlen := ps_len H i (by omega) hok
      have e1 : (160 : Int32) + nI i = nI (160 + i) := nI_add 160 i
      have ec : ((160 : Int32) + nI i).toNatClampNeg = 160 + i := by rw [e1]; exact nI_clamp (by omega)
      have ei : vp_in ((160 : Int32) + nI i) 200 := by rw [e1]; exact vp_in_nI (by omega) (by decide)
      have hk := H i (by omega)
      have nm : nI i = -1 → False := qb_ne_m1 (by omega)
      refine br_f (by rw [hl]; exact nI_ge (by omega) (by omega)) ?_
      cases e : ps_st k v i with
      | nil => exact br_t rfl (h _ _ _ _ (Or.inl ⟨i, by omega, hok, (by rintro ⟨x, xs, e', _⟩; rw [e] at e'; exact nomatch e'), rfl⟩) hU hB (fun z => (nm z).elim))
      | cons x xs =>
        rw [e] at hlen hR
        have hl' : xs.length + 1 ≤ 1 + 3 * i := hlen
        have e3 : nI (x :: xs).length + (-1) = nI xs.length := pk_m1 xs.length
        have hw : ps_wn k v x < 3 := ps_wn_lt
        have hs : tk_so (k i) < 3 := tk_so_lt
        have h4 := tk_np_le hk
        have bad : tk_so (k i) ≠ ps_wn k v x → post (nI i) (f_place, f_top, f_held, f_depth, f_ended, f_endTarget, f_endKind, f_endWorth, f_steps, f_says, f_result, f_thrown, f_over, a_kind, U, a_length, a_value, B, O, a_token, a_height, a_target, a_phase, a_how, a_kinds, a_worth, a_values, a_variables, a_begun, a_output) := by
          intro hf
          refine h _ _ _ _ (Or.inl ⟨i, by omega, hok, ?_, rfl⟩) hU hB (fun z => (nm z).elim)
          rintro ⟨y, ys, e', hy⟩
          rw [e] at e'
          have := (List.cons.inj e').1
          subst this
          exact hf hy
        have cont : ∀ (U' B' : Nat → Int32), tk_so (k i) = ps_wn k v x → (∀ j, j < 160 → U' j = a_up j) → (∀ j, j < 640 → B' j = a_below j) → (∀ j, j < i + 1 → ps_y k v (fun i => U' (160 + i)) (fun j => B' (640 + j)) j) → wY_shape_143 post (wY_shape_11 post f_place f_top f_held f_depth f_ended f_endTarget f_endKind f_endWorth f_steps f_says f_result f_thrown f_over (m + 1)) (nI xs.length) (nI i) (k i) f_place f_top f_held f_depth f_ended f_endTarget f_endKind f_endWorth f_steps f_says f_result f_thrown f_over a_kind U' a_length a_value B' O a_token a_height a_target a_phase a_how a_kinds a_worth a_values a_variables a_begun a_output := by
          intro U' B' hf hU' hB' hY'
          refine qy_143 hk (by omega) (by omega) (ev i (by omega)) ?_
          have el : xs.length + tk_np (k i) (v i) = (ps_st k v (i + 1)).length := by
            show _ = (ps_ch i 0 _ ++ (ps_st k v i).tail).length
            rw [List.length_append, ps_ch_len, e]
            show _ = _ + xs.length
            omega
          rw [el]
          refine ih (i + 1) _ _ _ (by omega) (fun j hj => ?_) ?_ hU' hB' hY'
          · by_cases ej : j = i
            · subst ej; exact ⟨x, xs, e, hf⟩
            · exact hok j (by omega)
          · have := yo_ch (i := i) (by omega) h4 hR.2 (tk_np (k i) (v i)) 0 (by omega)
            show yo_R _ (ps_ch i 0 _ ++ (ps_st k v i).tail)
            rw [e]
            exact this
        have hxl := ps_lt H i (by omega) x (by rw [e]; exact List.mem_cons_self ..)
        refine br_f (nI_ne0 (Nat.succ_pos _) (by show xs.length + 1 < _; omega)) (nm_r e3 ⟨vp_in_nI (by omega) (by decide), nm_r (e' := yo_c x) (by rw [nI_clamp (by omega)]; exact hR.1) ?_⟩)
        by_cases hx : x = 4000
        · subst hx
          refine br_f (by decide) ⟨ei, nm_r (e' := k i) (by rw [ec, ek i (by omega)]) (br_f (by decide) ?_)⟩
          refine qy_sort hk ?_
          by_cases hf : tk_so (k i) = ps_wn k v 4000
          · refine br_t (by rw [hf]; rfl) ⟨ei, nm_r (e' := upd U (160 + i) (-1)) (by rw [ec, qb_m1b]) (br_t (by decide) (cont _ _ hf (fun j hj => (pk_un (by omega)).trans (hU j hj)) hB (fun j hj => ?_)))⟩
            intro y ys ey
            by_cases ej : j = i
            · subst ej
              have := (List.cons.inj (e.symm.trans ey)).1
              exact ⟨fun _ => pk_us, fun z => (z this.symm).elim⟩
            · have := hY j (by omega) y ys ey
              show (_ → upd U (160 + i) (-1) (160 + j) = _) ∧ (_ → upd U (160 + i) (-1) (160 + j) = _ ∧ _)
              rw [pk_un (by omega)]
              exact this
          · refine br_f (fun z => hf ?_) (bad hf)
            have : (1 : Nat) = tk_so (k i) := (nI_eq (a := 1) (by omega) (by omega)).mp z
            rw [← this]
            rfl
        · have hx4 : x < 4 * i := hxl.resolve_left hx
          have eyc : yo_c x = nI x := if_neg hx
          rw [eyc]
          have ed : nI x / 4 = nI (x / 4) := pk_div (d := 4) (by omega) (by omega) (by omega)
          have er : nI x - nI x / 4 * 4 = nI (x % 4) := pk_rem (d := 4) (by omega) (by omega) (by omega)
          have e1p : (160 : Int32) + nI (x / 4) = nI (160 + x / 4) := nI_add 160 _
          have ecp : ((160 : Int32) + nI (x / 4)).toNatClampNeg = 160 + x / 4 := by rw [e1p]; exact nI_clamp (by omega)
          have eip : vp_in ((160 : Int32) + nI (x / 4)) 200 := by rw [e1p]; exact vp_in_nI (by omega) (by decide)
          have ewn : ps_wn k v x = tk_wt (k (x / 4)) (v (x / 4)) (x % 4) := if_neg hx
          refine br_t (nI_pos' (by omega)) ⟨by decide, ?_⟩
          rw [ed]
          refine ⟨ei, nm_r (e' := k i) (by rw [ec, ek i (by omega)]) (br_t (nI_pos' (by omega)) ⟨eip, eip, by decide, ?_⟩)⟩
          rw [ecp, ← ed, er, ed, ek _ (by omega), ev _ (by omega)]
          refine qy_want (H _ (by omega)) (by omega) ?_
          rw [← ewn]
          refine qy_sort hk ?_
          have e6 : (640 : Int32) + nI x = nI (640 + x) := nI_add 640 x
          by_cases hf : tk_so (k i) = ps_wn k v x
          · refine br_t (by rw [hf]) ⟨ei, nm_r (e' := upd U (160 + i) (nI (x / 4))) (by rw [ec, qb_nb8 (by omega)]) (br_f (nI_pos (by omega)) ⟨by rw [e6]; exact vp_in_nI (by omega) (by decide), nm_r (e' := upd B (640 + x) (nI i)) (by rw [e6, nI_clamp (by omega), qb_ns16 (by omega)]) (cont _ _ hf (fun j hj => (pk_un (by omega)).trans (hU j hj)) (fun j hj => (pk_un (by omega)).trans (hB j hj)) (fun j hj => ?_))⟩)⟩
            intro y ys ey
            show (_ → upd U (160 + i) _ (160 + j) = _) ∧ (_ → upd U (160 + i) _ (160 + j) = _ ∧ upd B (640 + x) _ (640 + y) = _)
            by_cases ej : j = i
            · subst ej
              have := (List.cons.inj (e.symm.trans ey)).1
              subst this
              exact ⟨fun z => (hx z).elim, fun _ => ⟨pk_us, pk_us⟩⟩
            · have hyy := hY j (by omega) y ys ey
              have hne : y ≠ x := by
                intro z
                subst z
                exact ej (ps_once H hd (by omega) (by omega) e ey)
              rw [pk_un (by omega), pk_un (by omega)]
              exact hyy
          · refine br_f (fun z => hf ?_) (bad hf)
            exact ((nI_eq (by omega) (by omega)).mp z).symm
  unfold wpY_shape
  refine nm_r (e' := upd a_open 0 (-1)) (by rw [qb_m1s]) ⟨d + 1, ?_⟩
  exact Lp d 0 a_up a_below _ (by omega) (fun j hj => by omega) ⟨pk_us, trivial⟩ (fun _ _ => rfl) (fun _ _ => rfl) (fun j hj => by omega)
end
end
section
section
variable {f_place f_top f_held f_depth f_ended f_endTarget f_endKind f_endWorth f_steps f_says f_result f_thrown f_over : Int32} {a_kind a_up a_length a_value a_below a_open a_token a_height a_target a_phase a_how a_kinds a_worth a_values a_variables a_begun a_output : Nat → Int32} {k v u : Nat → Int32} {L r : Nat}
/-- Y's way up finds the loop -/
theorem qy_12t {post : Int32 → Prop} (hr : r ≤ 4) (hL : L ≤ 40) (ek : ∀ i, i < L → a_kind (40 * r + i) = k i) (ev : ∀ i, i < L → a_value (40 * r + i) = v i) (eu : ∀ i, i < L → a_up (40 * r + i) = u i) {i : Nat} (hi : i < L) : ∀ n p t, p < L → tr_nl k v u (v i) n p t → post (nI t) → wY_loop_12 post (nI r) (nI i) f_place f_top f_held f_depth f_ended f_endTarget f_endKind f_endWorth f_steps f_says f_result f_thrown f_over a_kind a_up a_length a_value a_below a_open a_token a_height a_target a_phase a_how a_kinds a_worth a_values a_variables a_begun a_output n (nI p) := by
  have e1 : ∀ j, (40 : Int32) * nI r + nI j = nI (40 * r + j) := fun j => by rw [show (40 : Int32) * nI r = nI (40 * r) from pk_mul 40 r, nI_add]
  have ec : ∀ j, j < L → ((40 : Int32) * nI r + nI j).toNatClampNeg = 40 * r + j := fun j hj => by rw [e1 j]; exact nI_clamp (by omega)
  have ei : ∀ j, j < L → vp_in ((40 : Int32) * nI r + nI j) 200 := fun j hj => by rw [e1 j]; exact vp_in_nI (by omega) (by decide)
  intro n
  induction n with
  | zero => intro p t _ h; exact h.elim
  | succ n ih =>
    intro p t hp h hpost
    refine br_f (nI_pos (by omega)) ⟨ei p hp, ?_⟩
    rw [ec p hp, ek p hp, ec i hi, ev p hp, ev i hi]
    rcases h with ⟨⟨m1, m2⟩, rfl⟩ | ⟨hm, q, eq, hq, h⟩
    · exact br_t m1 ⟨ei _ hp, ei i hi, br_t m2 hpost⟩
    · have nx : wY_loop_57 post (wY_loop_12 post (nI r) (nI i) f_place f_top f_held f_depth f_ended f_endTarget f_endKind f_endWorth f_steps f_says f_result f_thrown f_over a_kind a_up a_length a_value a_below a_open a_token a_height a_target a_phase a_how a_kinds a_worth a_values a_variables a_begun a_output n) (nI r) (nI i) (nI p) f_place f_top f_held f_depth f_ended f_endTarget f_endKind f_endWorth f_steps f_says f_result f_thrown f_over a_kind a_up a_length a_value a_below a_open a_token a_height a_target a_phase a_how a_kinds a_worth a_values a_variables a_begun a_output := ⟨ei p hp, nm_r (e' := nI q) (by rw [ec p hp, eu p hp, eq]) (ih q t (by omega) h hpost)⟩
      exact br_c (fun m1 => ⟨ei p hp, ei i hi, br_f (fun m2 => hm ⟨m1, m2⟩) nx⟩) (fun _ => nx)
theorem qy_12f {post : Int32 → Prop} (hr : r ≤ 4) (hL : L ≤ 40) (ek : ∀ i, i < L → a_kind (40 * r + i) = k i) (ev : ∀ i, i < L → a_value (40 * r + i) = v i) (eu : ∀ i, i < L → a_up (40 * r + i) = u i) (hu : ∀ i, i < L → u i = -1 ∨ ∃ p, p < i ∧ u i = nI p) {i : Nat} (hi : i < L) (h0 : post (-1)) : ∀ n p, p < n → p < L → (¬ ∃ t, tr_NL k v u (v i) p t) → wY_loop_12 post (nI r) (nI i) f_place f_top f_held f_depth f_ended f_endTarget f_endKind f_endWorth f_steps f_says f_result f_thrown f_over a_kind a_up a_length a_value a_below a_open a_token a_height a_target a_phase a_how a_kinds a_worth a_values a_variables a_begun a_output (n + 1) (nI p) := by
  have e1 : ∀ j, (40 : Int32) * nI r + nI j = nI (40 * r + j) := fun j => by rw [show (40 : Int32) * nI r = nI (40 * r) from pk_mul 40 r, nI_add]
  have ec : ∀ j, j < L → ((40 : Int32) * nI r + nI j).toNatClampNeg = 40 * r + j := fun j hj => by rw [e1 j]; exact nI_clamp (by omega)
  have ei : ∀ j, j < L → vp_in ((40 : Int32) * nI r + nI j) 200 := fun j hj => by rw [e1 j]; exact vp_in_nI (by omega) (by decide)
  intro n
  induction n with
  | zero => intro p h; omega
  | succ n ih =>
    intro p hpn hp hn
    refine br_f (nI_pos (by omega)) ⟨ei p hp, ?_⟩
    rw [ec p hp, ek p hp, ec i hi, ev p hp, ev i hi]
    have hm : ¬ tr_m k v (v i) p := fun z => hn ⟨p, tr_NL_m z⟩
    have nx : wY_loop_57 post (wY_loop_12 post (nI r) (nI i) f_place f_top f_held f_depth f_ended f_endTarget f_endKind f_endWorth f_steps f_says f_result f_thrown f_over a_kind a_up a_length a_value a_below a_open a_token a_height a_target a_phase a_how a_kinds a_worth a_values a_variables a_begun a_output (n + 1)) (nI r) (nI i) (nI p) f_place f_top f_held f_depth f_ended f_endTarget f_endKind f_endWorth f_steps f_says f_result f_thrown f_over a_kind a_up a_length a_value a_below a_open a_token a_height a_target a_phase a_how a_kinds a_worth a_values a_variables a_begun a_output := by
      refine ⟨ei p hp, nm_r (e' := u p) (by rw [ec p hp, eu p hp]) ?_⟩
      rcases hu p hp with e | ⟨q, hq, e⟩
      · rw [e]
        exact br_t (by decide) h0
      · rw [e]
        exact ih q (by omega) (by omega) (fun ⟨t, ht⟩ => hn ⟨t, tr_NL_p hm e hq ht⟩)
    exact br_c (fun m1 => ⟨ei p hp, ei i hi, br_f (fun m2 => hm ⟨m1, m2⟩) nx⟩) (fun _ => nx)
/-- Y's loop: the loop that is found, or -1 -/
theorem qy_loop {post : Int32 → Prop} (hr : r ≤ 4) (hL : L ≤ 40) (ek : ∀ i, i < L → a_kind (40 * r + i) = k i) (ev : ∀ i, i < L → a_value (40 * r + i) = v i) (eu : ∀ i, i < L → a_up (40 * r + i) = u i) (hu : ∀ i, i < L → u i = -1 ∨ ∃ p, p < i ∧ u i = nI p) {i : Nat} (hi : i < L) (h1 : ∀ p t, u i = nI p → p < i → tr_NL k v u (v i) p t → post (nI t)) (h0 : (¬ ∃ p t, u i = nI p ∧ p < i ∧ tr_NL k v u (v i) p t) → post (-1)) : wpY_loop post (f_place, f_top, f_held, f_depth, f_ended, f_endTarget, f_endKind, f_endWorth, f_steps, f_says, f_result, f_thrown, f_over, a_kind, a_up, a_length, a_value, a_below, a_open, a_token, a_height, a_target, a_phase, a_how, a_kinds, a_worth, a_values, a_variables, a_begun, a_output) (nI r) (nI i) := by
  have e1 : ∀ j, (40 : Int32) * nI r + nI j = nI (40 * r + j) := fun j => by rw [show (40 : Int32) * nI r = nI (40 * r) from pk_mul 40 r, nI_add]
  refine ⟨by rw [e1 i]; exact vp_in_nI (by omega) (by decide), nm_r (e' := u i) (by rw [e1 i, nI_clamp (by omega), eu i hi]) ?_⟩
  by_cases hb : ∃ p t, u i = nI p ∧ p < i ∧ tr_NL k v u (v i) p t
  · obtain ⟨p, t, e, hp, n, hn⟩ := hb
    rw [e]
    exact ⟨n, qy_12t hr hL ek ev eu hi n p t (by omega) hn (h1 p t e hp ⟨n, hn⟩)⟩
  · rcases hu i hi with e | ⟨p, hp, e⟩
    · rw [e]
      exact ⟨1, br_t (by decide) (h0 hb)⟩
    · rw [e]
      exact ⟨L + 1, qy_12f hr hL ek ev eu hu hi (h0 hb) L p (by omega) (by omega) (fun ⟨t, ht⟩ => hb ⟨p, t, e, hp, ht⟩)⟩
theorem qy_unbound {post : Int32 → Prop} (hL : L ≤ 40) (hl : a_length 4 = nI L) (ek : ∀ i, i < L → a_kind (160 + i) = k i) (ev : ∀ i, i < L → a_value (160 + i) = v i) (eu : ∀ i, i < L → a_up (160 + i) = u i) (hu : ∀ i, i < L → u i = -1 ∨ ∃ p, p < i ∧ u i = nI p) (h : ∀ r, ub_ans (fun i => (k i = 19 ∨ k i = 20) ∧ ¬ ∃ p t, u i = nI p ∧ p < i ∧ tr_NL k v u (v i) p t) L r → post r) : wpY_unbound post (f_place, f_top, f_held, f_depth, f_ended, f_endTarget, f_endKind, f_endWorth, f_steps, f_says, f_result, f_thrown, f_over, a_kind, a_up, a_length, a_value, a_below, a_open, a_token, a_height, a_target, a_phase, a_how, a_kinds, a_worth, a_values, a_variables, a_begun, a_output) := by
  have Lp : ∀ m i, i + m = L → (∀ j, j < i → ¬ ((k j = 19 ∨ k j = 20) ∧ ¬ ∃ p t, u j = nI p ∧ p < j ∧ tr_NL k v u (v j) p t)) → wY_unbound_2 post f_place f_top f_held f_depth f_ended f_endTarget f_endKind f_endWorth f_steps f_says f_result f_thrown f_over a_kind a_up a_length a_value a_below a_open a_token a_height a_target a_phase a_how a_kinds a_worth a_values a_variables a_begun a_output (m + 1) (nI i) := by
    intro m
    induction m with
    | zero =>
      intro i hi hn
      have : i = L := by omega
      subst this
      exact br_t (by rw [hl]; exact nI_le (Nat.le_refl _) (by omega)) (h _ (Or.inr ⟨hn, rfl⟩))
    | succ m ih =>
      intro i hi hn
      have nx : ¬ ((k i = 19 ∨ k i = 20) ∧ ¬ ∃ p t, u i = nI p ∧ p < i ∧ tr_NL k v u (v i) p t) → wY_unbound_2 post f_place f_top f_held f_depth f_ended f_endTarget f_endKind f_endWorth f_steps f_says f_result f_thrown f_over a_kind a_up a_length a_value a_below a_open a_token a_height a_target a_phase a_how a_kinds a_worth a_values a_variables a_begun a_output (m + 1) (nI (i + 1)) := fun hc => ih (i + 1) (by omega) (fun q hq => by
        by_cases e : q = i
        · subst e; exact hc
        · exact hn q (by omega))
      have e1 : (160 : Int32) + nI i = nI (160 + i) := nI_add 160 i
      have ec : ((160 : Int32) + nI i).toNatClampNeg = 160 + i := by rw [e1]; exact nI_clamp (by omega)
      have ei : vp_in ((160 : Int32) + nI i) 200 := by rw [e1]; exact vp_in_nI (by omega) (by decide)
      have jump : (k i = 19 ∨ k i = 20) → wY_unbound_42 post (wY_unbound_2 post f_place f_top f_held f_depth f_ended f_endTarget f_endKind f_endWorth f_steps f_says f_result f_thrown f_over a_kind a_up a_length a_value a_below a_open a_token a_height a_target a_phase a_how a_kinds a_worth a_values a_variables a_begun a_output (m + 1)) (nI i) f_place f_top f_held f_depth f_ended f_endTarget f_endKind f_endWorth f_steps f_says f_result f_thrown f_over a_kind a_up a_length a_value a_below a_open a_token a_height a_target a_phase a_how a_kinds a_worth a_values a_variables a_begun a_output := fun hj =>
        qy_loop (r := 4) (by omega) hL ek ev eu hu (i := i) (by omega) (fun p t a b c => br_t (nI_pos' (by have := (tr_NL_le c).1; omega)) (nm_r (nI_1 i) (nx (fun z => z.2 ⟨p, t, a, b, c⟩)))) (fun hb => br_f (by decide) (h _ (Or.inl ⟨i, by omega, ⟨hj, hb⟩, hn, rfl⟩)))
      refine br_f (by rw [hl]; exact nI_ge (by omega) (by omega)) ⟨ei, ?_⟩
      rw [ec, ek i (by omega)]
      exact br_c (fun a => jump (Or.inl a)) (fun a => ⟨ei, br_c (fun b => jump (Or.inr b)) (fun b => nm_r (nI_1 i) (nx (fun z => z.1.elim a b)))⟩)
  exact ⟨L + 1, Lp L 0 (by omega) (fun q hq => by omega)⟩
theorem qy_copy {post : Int32 → SY → Prop} {f : Nat} (hf : f < 4) (h : wY_define_184 post (nI f) 0 f_place f_top f_held f_depth f_ended f_endTarget f_endKind f_endWorth f_steps f_says f_result f_thrown f_over (cp_n (vp_nar .byte) a_kind 160 (40 * f) 40) (cp_n (vp_nar .byte) a_up 160 (40 * f) 40) a_length (cp_n id a_value 160 (40 * f) 40) (cp_n (vp_nar .short) a_below 640 (160 * f) 160) a_open a_token a_height a_target a_phase a_how a_kinds a_worth a_values a_variables a_begun a_output) : ∃ n, wY_define_58 post (nI f) 0 f_place f_top f_held f_depth f_ended f_endTarget f_endKind f_endWorth f_steps f_says f_result f_thrown f_over n 0 a_kind a_up a_length a_value a_below a_open a_token a_height a_target a_phase a_how a_kinds a_worth a_values a_variables a_begun a_output := by
  have In : ∀ (J : Int32 → (Nat → Int32) → (Nat → Int32) → (Nat → Int32) → (Nat → Int32) → (Nat → Int32) → (Nat → Int32) → (Nat → Int32) → (Nat → Int32) → (Nat → Int32) → (Nat → Int32) → (Nat → Int32) → (Nat → Int32) → (Nat → Int32) → (Nat → Int32) → (Nat → Int32) → (Nat → Int32) → (Nat → Int32) → Prop) (K1 U1 V1 : Nat → Int32) (i : Nat), i < 40 → J (nI (i + 1)) K1 U1 a_length V1 (cp_n (vp_nar .short) a_below 640 (160 * f) (4 * i + 4)) a_open a_token a_height a_target a_phase a_how a_kinds a_worth a_values a_variables a_begun a_output → ∀ m o, o + m = 4 → wY_define_134 post J (nI f) 0 (nI i) f_place f_top f_held f_depth f_ended f_endTarget f_endKind f_endWorth f_steps f_says f_result f_thrown f_over (m + 1) (nI o) K1 U1 a_length V1 (cp_n (vp_nar .short) a_below 640 (160 * f) (4 * i + o)) a_open a_token a_height a_target a_phase a_how a_kinds a_worth a_values a_variables a_begun a_output := by
    intro J K1 U1 V1 i hi hJ m
    induction m with
    | zero =>
      intro o ho
      have : o = 4 := by omega
      subst this
      exact br_t (by decide) (nm_r (nI_1 i) hJ)
    | succ m ih =>
      intro o ho
      have e4 : (4 : Int32) * nI i = nI (4 * i) := pk_mul 4 i
      have e6 : (160 : Int32) * nI f = nI (160 * f) := pk_mul 160 f
      have e1 : (640 : Int32) + 4 * nI i + nI o = nI (640 + (4 * i + o)) := by rw [e4, show (640 : Int32) + nI (4 * i) = nI (640 + 4 * i) from nI_add 640 _, nI_add, Nat.add_assoc]
      have e2 : (160 : Int32) * nI f + 4 * nI i + nI o = nI (160 * f + (4 * i + o)) := by rw [e4, e6, nI_add, nI_add, Nat.add_assoc]
      refine br_f (nI_ge (b := 4) (by omega) (by decide)) ⟨by rw [e1]; exact vp_in_nI (by omega) (by decide), by rw [e2]; exact vp_in_nI (by omega) (by decide), nm_r (e' := cp_n (vp_nar .short) a_below 640 (160 * f) (4 * i + (o + 1))) ?_ (nm_r (nI_1 o) (ih (o + 1) (by omega)))⟩
      rw [e1, e2, nI_clamp (by omega), nI_clamp (by omega)]
      exact cp_s (by omega)
  have Lp : ∀ m i, i + m = 40 → wY_define_58 post (nI f) 0 f_place f_top f_held f_depth f_ended f_endTarget f_endKind f_endWorth f_steps f_says f_result f_thrown f_over (m + 1) (nI i) (cp_n (vp_nar .byte) a_kind 160 (40 * f) i) (cp_n (vp_nar .byte) a_up 160 (40 * f) i) a_length (cp_n id a_value 160 (40 * f) i) (cp_n (vp_nar .short) a_below 640 (160 * f) (4 * i)) a_open a_token a_height a_target a_phase a_how a_kinds a_worth a_values a_variables a_begun a_output := by
    intro m
    induction m with
    | zero =>
      intro i hi
      have : i = 40 := by omega
      subst this
      exact br_t (by decide) h
    | succ m ih =>
      intro i hi
      have e1 : (160 : Int32) + nI i = nI (160 + i) := nI_add 160 i
      have ec : ((160 : Int32) + nI i).toNatClampNeg = 160 + i := by rw [e1]; exact nI_clamp (by omega)
      have ei : vp_in ((160 : Int32) + nI i) 200 := by rw [e1]; exact vp_in_nI (by omega) (by decide)
      have e2 : (40 : Int32) * nI f + nI i = nI (40 * f + i) := by rw [show (40 : Int32) * nI f = nI (40 * f) from pk_mul 40 f, nI_add]
      have ec2 : ((40 : Int32) * nI f + nI i).toNatClampNeg = 40 * f + i := by rw [e2]; exact nI_clamp (by omega)
      have ei2 : vp_in ((40 : Int32) * nI f + nI i) 200 := by rw [e2]; exact vp_in_nI (by omega) (by decide)
      refine br_f (nI_ge (b := 40) (by omega) (by decide)) (br_t rfl ⟨ei, ei2, nm_r (e' := cp_n (vp_nar .byte) a_kind 160 (40 * f) (i + 1)) ?_ ⟨ei, ei2, nm_r (e' := cp_n id a_value 160 (40 * f) (i + 1)) ?_ ⟨ei, ei2, nm_r (e' := cp_n (vp_nar .byte) a_up 160 (40 * f) (i + 1)) ?_ ⟨5, ?_⟩⟩⟩⟩)
      · rw [ec, ec2]; exact cp_s (by omega)
      · rw [ec, ec2]; exact cp_s (g := id) (by omega)
      · rw [ec, ec2]; exact cp_s (by omega)
      · exact In _ _ _ _ i (by omega) (ih (i + 1) (by omega)) 4 0 (by omega)
  have := Lp 40 0 (by omega)
  simp only [Nat.mul_zero, cp_0] at this
  exact ⟨41, this⟩
end
end
section
theorem ps_up {k v u bl : Nat → Int32} {d : Nat} (H : ∀ i, i < d → tk_ok (k i) (v i)) (hok : ps_ok k v d) (hy : ∀ j, j < d → ps_y k v u bl j) (i : Nat) (hi : i < d) : u i = -1 ∨ ∃ p, p < i ∧ u i = nI p := by
  obtain ⟨x, xs, e, _⟩ := hok i hi
  rcases ps_mem i x (by rw [e]; exact List.mem_cons_self ..) with rfl | ⟨p, o, rfl, hp, ho⟩
  · exact Or.inl ((hy i hi _ _ e).1 rfl)
  · have hn := tk_np_le (H p (by omega))
    by_cases h4 : 4 * p + o = 4000
    · exact Or.inl ((hy i hi _ _ e).1 h4)
    · refine Or.inr ⟨p, hp, ?_⟩
      rw [((hy i hi _ _ e).2 h4).1]
      exact congrArg nI (by omega)
section
variable {f_place f_top f_held f_depth f_ended f_endTarget f_endKind f_endWorth f_steps f_says f_result f_thrown f_over : Int32} {a_kind a_up a_length a_value a_below a_open a_token a_height a_target a_phase a_how a_kinds a_worth a_values a_variables a_begun a_output : Nat → Int32} {k v : Nat → Int32} {d : Nat}
theorem qy_184n {post : Int32 → SY → Prop} {f : Nat} {x : Int32} (hx : ¬ x = 0) (h : post x (f_place, f_top, f_held, f_depth, f_ended, f_endTarget, f_endKind, f_endWorth, f_steps, f_says, f_result, f_thrown, f_over, a_kind, a_up, upd a_length 4 0, a_value, a_below, a_open, a_token, a_height, a_target, a_phase, a_how, a_kinds, a_worth, a_values, a_variables, a_begun, a_output)) : ∃ n, wY_define_58 post (nI f) x f_place f_top f_held f_depth f_ended f_endTarget f_endKind f_endWorth f_steps f_says f_result f_thrown f_over n 0 a_kind a_up a_length a_value a_below a_open a_token a_height a_target a_phase a_how a_kinds a_worth a_values a_variables a_begun a_output :=
  ⟨1, br_f (by decide) (br_f hx (br_f hx (nm_r (congrArg (upd a_length 4) (qb_nb (n := 0) (by decide))) h)))⟩
theorem qy_define {post : Int32 → SY → Prop} {f : Nat} (hf : f < 4) (hd : d ≤ 40) (hl : a_length 4 = nI d) (ek : ∀ i, i < d → a_kind (160 + i) = k i) (ev : ∀ i, i < d → a_value (160 + i) = v i) (H : ∀ i, i < d → tk_ok (k i) (v i))
    (hA : ∀ (r : Int32) (U B O : Nat → Int32), ps_ans k v d r → r ≠ -1 → (∀ j, j < 160 → U j = a_up j) → (∀ j, j < 640 → B j = a_below j) → post 1 (r, f_top, f_held, f_depth, f_ended, f_endTarget, f_endKind, f_endWorth, f_steps, f_says, f_result, f_thrown, f_over, a_kind, U, upd a_length 4 0, a_value, B, O, a_token, a_height, a_target, a_phase, a_how, a_kinds, a_worth, a_values, a_variables, a_begun, a_output))
    (hB : ∀ (r : Int32) (U B O : Nat → Int32), ps_ok k v d → ps_st k v d = [] → (∀ j, j < 160 → U j = a_up j) → (∀ j, j < 640 → B j = a_below j) → (∀ j, j < d → ps_y k v (fun i => U (160 + i)) (fun j => B (640 + j)) j) → ub_ans (fun i => (k i = 19 ∨ k i = 20) ∧ ¬ ∃ p t, U (160 + i) = nI p ∧ p < i ∧ tr_NL k v (fun i => U (160 + i)) (v i) p t) d r → r ≠ -1 → post 2 (r, f_top, f_held, f_depth, f_ended, f_endTarget, f_endKind, f_endWorth, f_steps, f_says, f_result, f_thrown, f_over, a_kind, U, upd a_length 4 0, a_value, B, O, a_token, a_height, a_target, a_phase, a_how, a_kinds, a_worth, a_values, a_variables, a_begun, a_output))
    (hC : ∀ (U B O : Nat → Int32), ps_ok k v d → ps_st k v d = [] → (∀ j, j < 160 → U j = a_up j) → (∀ j, j < 640 → B j = a_below j) → (∀ j, j < d → ps_y k v (fun i => U (160 + i)) (fun j => B (640 + j)) j) → ub_ans (fun i => (k i = 19 ∨ k i = 20) ∧ ¬ ∃ p t, U (160 + i) = nI p ∧ p < i ∧ tr_NL k v (fun i => U (160 + i)) (v i) p t) d (-1) → post 0 (-1, f_top, f_held, f_depth, f_ended, f_endTarget, f_endKind, f_endWorth, f_steps, f_says, f_result, f_thrown, f_over, cp_n (vp_nar .byte) a_kind 160 (40 * f) 40, cp_n (vp_nar .byte) U 160 (40 * f) 40, upd (upd a_length f (nI d)) 4 0, cp_n id a_value 160 (40 * f) 40, cp_n (vp_nar .short) B 640 (160 * f) 160, O, a_token, a_height, a_target, a_phase, a_how, a_kinds, a_worth, a_values, a_variables, a_begun, a_output)) : wpY_define post (f_place, f_top, f_held, f_depth, f_ended, f_endTarget, f_endKind, f_endWorth, f_steps, f_says, f_result, f_thrown, f_over, a_kind, a_up, a_length, a_value, a_below, a_open, a_token, a_height, a_target, a_phase, a_how, a_kinds, a_worth, a_values, a_variables, a_begun, a_output) (nI f) := by
  unfold wpY_define
  refine qy_outF (n := 4) hf (by decide) (br_t rfl ?_)
  refine qy_shape hd hl ek ev H (fun r U B O ha hU hB' hY => ?_)
  by_cases hr : r = -1
  · subst hr
    have hg : ps_ok k v d ∧ ps_st k v d = [] := by
      rcases ha with ⟨i, hi, _, _, e⟩ | ⟨_, _, e⟩ | ⟨a, b, _⟩
      · exact (qb_ne_m1 (by omega) e.symm).elim
      · exact (qb_ne_m1 (by omega) e.symm).elim
      · exact ⟨a, b⟩
    have hY := hY rfl
    refine br_f (by decide) (br_t rfl (qy_unbound hd hl ek ev (fun _ _ => rfl) (ps_up H hg.1 hY) (fun r hu => ?_)))
    by_cases h1 : r = -1
    · subst h1
      refine br_f (by decide) (qy_copy hf ?_)
      refine br_t rfl ⟨vp_in_nI (by omega) (by decide), nm_r (e' := upd a_length f (nI d)) ?_ (nm_r (e' := upd (upd a_length f (nI d)) 4 0) (congrArg (upd _ 4) (qb_nb (n := 0) (by decide))) (hC U B O hg.1 hg.2 hU hB' hY hu))⟩
      rw [nI_clamp (by omega), hl, qb_nb (by omega)]
    · have hp : 0 ≤ r := by
        rcases hu with ⟨i, hi, _, _, e⟩ | ⟨_, e⟩
        · rw [e]; exact nI_pos' (by omega)
        · exact (h1 e).elim
      exact br_t hp (qy_184n (by decide) (hB r U B O hg.1 hg.2 hU hB' hY hu h1))
  · have hp : 0 ≤ r := by
      rcases ha with ⟨i, hi, _, _, e⟩ | ⟨_, _, e⟩ | ⟨_, _, e⟩
      · rw [e]; exact nI_pos' (by omega)
      · rw [e]; exact nI_pos' (by omega)
      · exact (hr e).elim
    exact br_t hp (br_f (by decide) (qy_184n (by decide) (hA r U B O ha hr hU hB')))
end
theorem qr_row {K V Z KY VY U B K' V' Z' KY' VY' U' B' : Nat → Int32} {r L : Nat} (h : pg_row K V Z KY VY U B r L) (e1 : ∀ i, i < 40 → K' (40 * r + i) = K (40 * r + i)) (e2 : ∀ i, i < 40 → V' (40 * r + i) = V (40 * r + i)) (e3 : ∀ i, i < 40 → Z' (40 * r + i) = Z (40 * r + i)) (e5 : ∀ i, i < 40 → KY' (40 * r + i) = KY (40 * r + i)) (e6 : ∀ i, i < 40 → VY' (40 * r + i) = VY (40 * r + i)) (e7 : ∀ i, i < 40 → U' (40 * r + i) = U (40 * r + i)) (e8 : ∀ i, i < 160 → B' (160 * r + i) = B (160 * r + i)) : pg_row K' V' Z' KY' VY' U' B' r L := by
  have hL := h.1.2.1
  refine ⟨tr_T_congr (fun i hi => e1 _ (by omega)) (fun i hi => e2 _ (by omega)) (fun i hi => e3 _ (by omega)) (fun i hi p _ e => (e7 _ (by omega)).trans e) (fun i hi p _ e => (e8 _ (by omega)).trans e) h.1, fun i hi => ?_⟩
  rw [e1 _ (by omega), e2 _ (by omega), e5 _ (by omega), e6 _ (by omega)]
  exact h.2 i hi
def qr_ln (LN : Nat → Nat) (f d : Nat) : Nat → Nat := fun r => if r = f then d else LN r
theorem qr_ln_s {LN : Nat → Nat} {f d : Nat} : qr_ln LN f d f = d := if_pos rfl
theorem qr_ln_n {LN : Nat → Nat} {f d r : Nat} (h : ¬ r = f) : qr_ln LN f d r = LN r := if_neg h
theorem i_vc_define {k : Nat} {u : SX} {v : SY} (I : i_Rel k u v) (hk : k + 3 ≤ 1536) (v1 : Int32) : wpX_define (fun r u' => wpY_define (fun r' v' => r' = r ∧ i_Rel (k + 3) u' v') v v1) u v1 := by
  obtain ⟨f_expectedCount, f_draftLength, f_latestPlace, f_entryCount, f_working, f_ending, f_endNote, f_endValue, f_sayCount, f_stepCount, f_tooLong, f_latestResult, f_latestKind, a_tokenKind, a_tokenValue, a_tokenSize, a_hasBody, a_expected, a_entryToken, a_entryPhase, a_keptEnding, a_keptNote, a_keptValue, a_variables, a_output⟩ := u
  obtain ⟨f_place, f_top, f_held, f_depth, f_ended, f_endTarget, f_endKind, f_endWorth, f_steps, f_says, f_result, f_thrown, f_over, a_kind, a_up, a_length, a_value, a_below, a_open, a_token, a_height, a_target, a_phase, a_how, a_kinds, a_worth, a_values, b_variables, a_begun, b_output⟩ := v
  have I' := I
  obtain ⟨d, s, LN, rfl, hl, ⟨hd, hdr⟩, hpg, h5⟩ := I
  have no : (v1 < 0 ∨ (¬ v1 < 0 ∧ nI 4 ≤ v1)) → wpX_define (fun r u' => wpY_define (fun r' v' => r' = r ∧ i_Rel (k + 3) u' v') (f_place, f_top, f_held, f_depth, f_ended, f_endTarget, f_endKind, f_endWorth, f_steps, f_says, f_result, f_thrown, f_over, a_kind, a_up, a_length, a_value, a_below, a_open, a_token, a_height, a_target, a_phase, a_how, a_kinds, a_worth, a_values, b_variables, a_begun, b_output) v1) (f_expectedCount, nI d, f_latestPlace, f_entryCount, f_working, f_ending, f_endNote, f_endValue, f_sayCount, f_stepCount, f_tooLong, f_latestResult, f_latestKind, a_tokenKind, a_tokenValue, a_tokenSize, a_hasBody, a_expected, a_entryToken, a_entryPhase, a_keptEnding, a_keptNote, a_keptValue, a_variables, a_output) v1 := by
    intro hv
    have hY : wpY_define (fun r' v' => r' = -1 ∧ i_Rel (k + 3) (f_expectedCount, nI d, f_latestPlace, f_entryCount, f_working, f_ending, f_endNote, f_endValue, f_sayCount, f_stepCount, f_tooLong, f_latestResult, f_latestKind, a_tokenKind, a_tokenValue, a_tokenSize, a_hasBody, a_expected, a_entryToken, a_entryPhase, a_keptEnding, a_keptNote, a_keptValue, a_variables, a_output) v') (f_place, f_top, f_held, f_depth, f_ended, f_endTarget, f_endKind, f_endWorth, f_steps, f_says, f_result, f_thrown, f_over, a_kind, a_up, a_length, a_value, a_below, a_open, a_token, a_height, a_target, a_phase, a_how, a_kinds, a_worth, a_values, b_variables, a_begun, b_output) v1 := by
      unfold wpY_define
      exact qy_outN (n := 4) (by decide) hv (br_f (by decide) ⟨rfl, I'⟩)
    unfold wpX_define
    exact qx_isN hv (br_t rfl hY)
  rcases qb_fun v1 (n := 4) (by decide) with hv | hv | ⟨f, hf, rfl⟩
  · exact no (Or.inl hv)
  · exact no (Or.inr hv)
  have H : ∀ i, i < d → tk_ok (a_tokenKind (160 + i)) (a_tokenValue (160 + i)) := fun i hi => (hdr i hi).1
  have eK : ∀ i, i < d → a_kind (160 + i) = a_tokenKind (160 + i) := fun i hi => (hdr i hi).2.1
  have eV : ∀ i, i < d → a_value (160 + i) = a_tokenValue (160 + i) := fun i hi => (hdr i hi).2.2
  have d0 : ∀ K V KY VY : Nat → Int32, dr_ok K V KY VY 0 := fun _ _ _ _ => ⟨by omega, fun i hi => by omega⟩
  obtain ⟨-, h6, h7, h8, h9, h10, h11, h12, h13⟩ := h5
  refine qx_define (k := fun i => a_tokenKind (160 + i)) (v := fun i => a_tokenValue (160 + i)) hf hd (fun _ _ => rfl) (fun _ _ => rfl) H (fun r ec ex ha hr => ?_) (fun r ec ex Z hok hE hZ hG hu hr => ?_) (fun ec ex Z hok hE hZ hG hu => ?_)
  · refine qy_define hf hd hl eK eV H (fun r' U B O ha' hr' hU hB => ?_) (fun r' U B O hok hE _ _ _ _ _ => ?_) (fun U B O hok hE _ _ _ _ => ?_)
    · exact ⟨rfl, 0, s, LN, rfl, pk_us, d0 _ _ _ _, qr_pg hpg (fun _ _ => rfl) (fun _ _ => rfl) (fun _ _ => rfl) (fun _ _ => rfl) (fun _ _ => rfl) (fun _ _ => rfl) hU hB (fun j hj => pk_un (by omega)), ps_ans_one ha ha', h6, h7, h8, h9, h10, h11, h12, h13⟩
    · exact (hr (ps_ans_one (Or.inr (Or.inr ⟨hok, hE, rfl⟩)) ha)).elim
    · exact (hr (ps_ans_one (Or.inr (Or.inr ⟨hok, hE, rfl⟩)) ha)).elim
  · refine qy_define hf hd hl eK eV H (fun r' U B O ha' hr' hU hB => ?_) (fun r' U B O hok' hE' hU hB hY hu' hr' => ?_) (fun U B O hok' hE' hU hB hY hu' => ?_)
    · exact (hr' (ps_ans_one (Or.inr (Or.inr ⟨hok, hE, rfl⟩)) ha')).elim
    · have hPQ := fun i (hi : i < d) => and_congr_right (a := (a_tokenKind (160 + i) = 19 ∨ a_tokenKind (160 + i) = 20)) (fun _ => not_congr (ps_bound H hd hE hok hG hY (lab := a_tokenValue (160 + i)) hi))
      exact ⟨rfl, 0, s, LN, rfl, pk_us, d0 _ _ _ _, qr_pg hpg (fun _ _ => rfl) (fun _ _ => rfl) hZ (fun _ _ => rfl) (fun _ _ => rfl) (fun _ _ => rfl) hU hB (fun j hj => pk_un (by omega)), ub_one hPQ hu hu', h6, h7, h8, h9, h10, h11, h12, h13⟩
    · have hPQ := fun i (hi : i < d) => and_congr_right (a := (a_tokenKind (160 + i) = 19 ∨ a_tokenKind (160 + i) = 20)) (fun _ => not_congr (ps_bound H hd hE hok hG hY (lab := a_tokenValue (160 + i)) hi))
      exact (hr (ub_one hPQ hu hu').symm).elim
  · refine qy_define hf hd hl eK eV H (fun r' U B O ha' hr' hU hB => ?_) (fun r' U B O hok' hE' hU hB hY hu' hr' => ?_) (fun U B O hok' hE' hU hB hY hu' => ?_)
    · exact (hr' (ps_ans_one (Or.inr (Or.inr ⟨hok, hE, rfl⟩)) ha')).elim
    · have hPQ := fun i (hi : i < d) => and_congr_right (a := (a_tokenKind (160 + i) = 19 ∨ a_tokenKind (160 + i) = 20)) (fun _ => not_congr (ps_bound H hd hE hok hG hY (lab := a_tokenValue (160 + i)) hi))
      exact (hr' (ub_one hPQ hu hu')).elim
    · have hd1 : 1 ≤ d := by
        rcases Nat.eq_zero_or_pos d with z | z
        · subst z; exact nomatch hE
        · exact z
      have hbd : ∀ i, i < d → (a_tokenKind (160 + i) = 19 ∨ a_tokenKind (160 + i) = 20) → ∃ p t, U (160 + i) = nI p ∧ p < i ∧ tr_NL (fun i => a_tokenKind (160 + i)) (fun i => a_tokenValue (160 + i)) (fun i => U (160 + i)) (a_tokenValue (160 + i)) p t := by
        intro i hi hj
        rcases hu' with ⟨i', hi', _, _, e⟩ | ⟨a, _⟩
        · exact (qb_ne_m1 (by omega) e.symm).elim
        · exact Classical.byContradiction (fun z => a i hi ⟨hj, z⟩)
      have T := ps_T H hd1 hd hE hok hG hY hbd
      refine ⟨rfl, 0, s, qr_ln LN f d, rfl, pk_us, d0 _ _ _ _, fun r hr => ?_, rfl, h6, h7, h8, h9, h10, h11, h12, h13⟩
      by_cases er : r = f
      · subst er
        refine Or.inr ⟨by rw [qr_ln_s]; exact hd1, pk_us, ?_, ?_⟩
        · rw [qr_ln_s, pk_un (by omega), pk_us]
        · rw [qr_ln_s]
          refine ⟨tr_T_congr (fun i hi => cp_at hi) (fun i hi => cp_at hi) (fun i hi => cp_at hi) (fun i hi p hp e => ?_) (fun j hj c hc e => ?_) T, fun i hi => ⟨?_, ?_⟩⟩
          · show cp_n _ _ _ _ _ _ = _
            rw [cp_at (by omega)]
            show vp_nar .byte (U (160 + i)) = _
            rw [show U (160 + i) = nI p from e, qb_nb (by omega)]
          · show cp_n _ _ _ _ _ _ = _
            rw [cp_at (by omega)]
            show vp_nar .short (B (640 + j)) = _
            rw [show B (640 + j) = nI c from e, qb_ns (by omega)]
          · rw [cp_at (by omega), cp_at hi, eK i hi]
            obtain ⟨n, e, hn, _⟩ := H i hi
            rw [e, qb_nb (by omega)]
            rfl
          · rw [cp_at (by omega), cp_at hi, eV i hi]
      · rcases hpg r hr with ⟨a, b, c⟩ | ⟨a, b, c, e⟩
        · exact Or.inl ⟨by rw [qr_ln_n er]; exact a, by rw [pk_un er]; exact b, by rw [pk_un (by omega), pk_un er]; exact c⟩
        · refine Or.inr ⟨by rw [qr_ln_n er]; exact a, by rw [pk_un er]; exact b, by rw [qr_ln_n er, pk_un (by omega), pk_un er]; exact c, ?_⟩
          rw [qr_ln_n er]
          refine qr_row e (fun i hi => cp_out (by omega)) (fun i hi => cp_out (by omega)) (fun i hi => (cp_out (by omega)).trans (hZ _ (by omega))) (fun i hi => cp_out (by omega)) (fun i hi => cp_out (by omega)) (fun i hi => (cp_out (by omega)).trans (hU _ (by omega))) (fun i hi => (cp_out (by omega)).trans (hB _ (by omega)))
end
section
/-- a frame: row, token, X's phase, Y's phase, the catch that was chosen (0: none), the kept value, ending, note, target -/
abbrev Fr : Type := Nat × Nat × Nat × Nat × Nat × Int32 × Int32 × Int32 × Nat
def ro (K : Nat → Int32) (r : Nat) : Nat → Int32 := fun i => K (40 * r + i)
/-- how many values a frame holds while its part is at work -/
def fr_b (k : Int32) (p : Nat) : Nat := if (k = 2 ∨ k = 3 ∨ k = 4 ∨ k = 5 ∨ k = 6) ∧ p = 2 then 1 else 0
/-- the sort of the part that is at work, or has just ended -/
def fr_cs (k : Int32) (p : Nat) : Nat := if k = 8 then (if p = 2 then 1 else 0) else if k = 17 ∨ k = 14 then 1 else if k = 12 ∨ k = 13 then (if p ≤ 1 then 0 else 1) else 0
def fr_ok (k v : Int32) (p y c : Nat) : Prop :=
  (k = 17 ∧ ((p = 0 ∧ y = 0 ∧ c = 0) ∨ (p = 1 ∧ y = 1 ∧ c = 0) ∨ (p = 2 ∧ y = c + 1 ∧ 1 ≤ c ∧ c ≤ tk_cn v) ∨ (p = 3 ∧ y = 4 ∧ c = 0 ∧ tk_fn v = 1))) ∨
  (k = 12 ∧ c = 0 ∧ ((p = 0 ∧ y = 0) ∨ (p = 1 ∧ y = 1) ∨ (p = 2 ∧ (y = 2 ∨ y = 3)))) ∨
  ((k = 13 ∨ k = 8) ∧ c = 0 ∧ p ≤ 2 ∧ y = p) ∨
  (k ≠ 17 ∧ k ≠ 12 ∧ k ≠ 13 ∧ k ≠ 8 ∧ c = 0 ∧ y = p ∧ p ≤ tk_np k v ∧ p ≤ 2)
theorem fr_ok0 (k v : Int32) : fr_ok k v 0 0 0 := by
  by_cases h1 : k = 17
  · exact Or.inl ⟨h1, Or.inl ⟨rfl, rfl, rfl⟩⟩
  · by_cases h2 : k = 12
    · exact Or.inr (Or.inl ⟨h2, rfl, Or.inl ⟨rfl, rfl⟩⟩)
    · by_cases h3 : k = 13 ∨ k = 8
      · exact Or.inr (Or.inr (Or.inl ⟨h3, rfl, by omega, rfl⟩))
      · exact Or.inr (Or.inr (Or.inr ⟨h1, h2, fun z => h3 (Or.inl z), fun z => h3 (Or.inr z), rfl, rfl, by omega, by omega⟩))
theorem fr_ok_le {k v : Int32} {p y c : Nat} (h : fr_ok k v p y c) : p ≤ 3 := by
  rcases h with ⟨_, h | h | h | h⟩ | ⟨_, _, h | h | h⟩ | ⟨_, _, h, _⟩ | ⟨_, _, _, _, _, _, _, h⟩ <;> omega
/-- Y's entries, Y's values, the functions at work -/
def st_y : List Fr → Nat
  | [] => 0
  | (_, _, _, _, c, _, _, _, _) :: st => st_y st + (if c = 0 then 1 else 2)
def st_h (K : Nat → Int32) : List Fr → Nat
  | [] => 0
  | (r, i, p, _, _, _, _, _, _) :: st => st_h K st + fr_b (K (40 * r + i)) p
def st_w (K : Nat → Int32) : List Fr → Nat
  | [] => 1
  | (r, i, p, _, _, _, _, _, _) :: st => st_w K st + (if K (40 * r + i) = 8 ∧ p = 2 then 1 else 0)
/-- an ending that is to be passed on by token i of row r -/
def en_ok (K V U : Nat → Int32) (r i : Nat) (e n : Int32) (t : Nat) : Prop :=
  (e = 0 ∨ e = 1 ∨ e = 2 ∨ e = 3 ∨ e = 4) ∧ ((e = 1 ∨ e = 2) → tr_NL (ro K r) (ro V r) (ro U r) n i t) ∧ (e = 4 → ∃ m : Nat, m < 4 ∧ n = nI m)
/-- token i of row r as a part of the frame below it -/
def st_adj (K V U : Nat → Int32) : List Fr → Nat → Nat → Prop
  | [], _, i => i = 0
  | (r', i', p', _, c', _, _, _, _) :: _, r, i => 1 ≤ p' ∧ ((K (40 * r' + i') = 8 ∧ p' = 2 ∧ i = 0) ∨ (¬ (K (40 * r' + i') = 8 ∧ p' = 2) ∧ r = r' ∧ i' + (if c' = 0 then 1 else 2) ≤ i ∧ tk_so (K (40 * r + i)) = fr_cs (K (40 * r' + i')) p' ∧ ∀ lab t, ¬ tr_m (ro K r) (ro V r) lab i → tr_NL (ro K r) (ro V r) (ro U r) lab i t → tr_NL (ro K r) (ro V r) (ro U r) lab i' t))
def st_wf (K V U : Nat → Int32) (LN : Nat → Nat) : List Fr → Prop
  | [] => True
  | (r, i, p, y, c, _, e, n, t) :: st => st_wf K V U LN st ∧ r < 4 ∧ i < LN r ∧ K (40 * r + i) ≠ 18 ∧ fr_ok (K (40 * r + i)) (V (40 * r + i)) p y c ∧ st_y st ≤ 40 * (st_w K st - 1) + i ∧ (p = 3 → en_ok K V U r i e n t) ∧ st_adj K V U st r i ∧ (i = 0 → tk_so (K (40 * r + i)) = 1)
/-- the ending that the topmost frame has to deal with -/
def st_top (K V U : Nat → Int32) : List Fr → Int32 → Int32 → Nat → Prop
  | [], e, _, _ => e = 0 ∨ e = 3 ∨ e = 4
  | (r, i, p, _, _, _, _, _, _) :: _, e, n, t => en_ok K V U r i e n t ∧ (p = 0 → e = 0) ∧ (1 ≤ p → fr_cs (K (40 * r + i)) p = 0 → e = 0 ∨ e = 4) ∧ (K (40 * r + i) = 8 → p = 2 → e = 0 ∨ e = 3 ∨ e = 4)
theorem st_w_pos (K : Nat → Int32) : ∀ st, 1 ≤ st_w K st := by
  intro st
  induction st with
  | nil => exact Nat.le_refl _
  | cons f st ih => obtain ⟨r, i, p, y, c, a, e, n, t⟩ := f; show 1 ≤ st_w K st + _; omega
theorem st_len_y : ∀ st : List Fr, st.length ≤ st_y st := by
  intro st
  induction st with
  | nil => exact Nat.le_refl _
  | cons f st ih =>
    obtain ⟨r, i, p, y, c, a, e, n, t⟩ := f
    show st.length + 1 ≤ st_y st + _
    split <;> omega
theorem fr_b_le (k : Int32) (p : Nat) : fr_b k p ≤ 1 := by unfold fr_b; split <;> omega
theorem st_h_y (K : Nat → Int32) : ∀ st : List Fr, st_h K st ≤ st_y st := by
  intro st
  induction st with
  | nil => exact Nat.le_refl _
  | cons f st ih =>
    obtain ⟨r, i, p, y, c, a, e, n, t⟩ := f
    have := fr_b_le (K (40 * r + i)) p
    show st_h K st + _ ≤ st_y st + _
    split <;> omega
/-- all rows with a body are good -/
def pg_T (K V Z U B : Nat → Int32) (LN : Nat → Nat) : Prop := ∀ r, r < 4 → 1 ≤ LN r → tr_T (LN r) (ro K r) (ro V r) (ro Z r) (ro U r) (fun j => B (160 * r + j))
section
variable {K V Z U B : Nat → Int32} {LN : Nat → Nat}
/-- what may be passed on when token i of row r ends -/
def en_pop (K V U : Nat → Int32) (r i : Nat) (e n : Int32) (t : Nat) : Prop :=
  (e = 0 ∨ e = 1 ∨ e = 2 ∨ e = 3 ∨ e = 4) ∧ (tk_so (K (40 * r + i)) = 0 → e = 0 ∨ e = 4) ∧ ((e = 1 ∨ e = 2) → tr_NL (ro K r) (ro V r) (ro U r) n i t ∧ ¬ tr_m (ro K r) (ro V r) n i) ∧ (e = 4 → ∃ m : Nat, m < 4 ∧ n = nI m)
theorem en_root {r : Nat} {e n : Int32} {t : Nat} (h : en_pop K V U r 0 e n t) : e = 0 ∨ e = 3 ∨ e = 4 := by
  have no : ¬ (e = 1 ∨ e = 2) := by
    intro z
    obtain ⟨a, b⟩ := h.2.2.1 z
    rcases tr_NL_u a with ⟨c, _⟩ | ⟨_, p, _, hp, _⟩
    · exact b c
    · omega
  rcases h.1 with h | h | h | h | h
  · exact Or.inl h
  · exact (no (Or.inl h)).elim
  · exact (no (Or.inr h)).elim
  · exact Or.inr (Or.inl h)
  · exact Or.inr (Or.inr h)
theorem st_pop {r i p y c : Nat} {a e0 n0 : Int32} {t0 : Nat} {st : List Fr} (W : st_wf K V U LN ((r, i, p, y, c, a, e0, n0, t0) :: st)) {e n : Int32} {t : Nat} (h : en_pop K V U r i e n t) : st_top K V U st e n t := by
  obtain ⟨_, _, _, _, _, _, _, hadj, hroot⟩ := W
  cases st with
  | nil =>
    have hi : i = 0 := hadj
    subst hi
    exact en_root h
  | cons f st =>
    obtain ⟨r', i', p', y', c', a', e', n', t'⟩ := f
    obtain ⟨h1, ⟨a1, a2, a3⟩ | ⟨b1, b2, b3, b4, b5⟩⟩ := hadj
    · subst a3
      have hr := en_root h
      refine ⟨⟨h.1, fun z => ?_, h.2.2.2⟩, fun z => by omega, fun _ z => ?_, fun _ _ => hr⟩
      · rcases hr with q | q | q <;> rw [q] at z <;> exact absurd z (by decide)
      · rw [a1, a2] at z
        exact absurd z (by decide)
    · subst b2
      refine ⟨⟨h.1, fun z => b5 n t (h.2.2.1 z).2 (h.2.2.1 z).1, h.2.2.2⟩, fun z => by omega, fun _ z => h.2.1 (b4.trans z), fun z1 z2 => (b1 ⟨z1, z2⟩).elim⟩
theorem tk_so18 {k : Int32} (h : tk_so k ≠ 2) : k ≠ 18 := fun e => h (by rw [e]; decide)
/-- a part begins: token j over the frame of token i -/
theorem wf_push {r i p y c : Nat} {a e n : Int32} {t : Nat} {st : List Fr} (W : st_wf K V U LN ((r, i, p, y, c, a, e, n, t) :: st)) {j p' y' c' : Nat} {a' e' n' : Int32} {t' : Nat} (hc : ¬ (K (40 * r + i) = 8 ∧ p' = 2)) (h1 : 1 ≤ p') (ok : fr_ok (K (40 * r + i)) (V (40 * r + i)) p' y' c') (hj : j < LN r) (hk : tk_so (K (40 * r + j)) ≠ 2) (hij : i + (if c' = 0 then 1 else 2) ≤ j) (hso : tk_so (K (40 * r + j)) = fr_cs (K (40 * r + i)) p') (hNL : ∀ lab t, ¬ tr_m (ro K r) (ro V r) lab j → tr_NL (ro K r) (ro V r) (ro U r) lab j t → tr_NL (ro K r) (ro V r) (ro U r) lab i t) (hen : p' = 3 → en_ok K V U r i e' n' t') : st_wf K V U LN ((r, j, 0, 0, 0, 0, 0, 0, 0) :: (r, i, p', y', c', a', e', n', t') :: st) ∧ st_w K ((r, j, 0, 0, 0, 0, 0, 0, 0) :: (r, i, p', y', c', a', e', n', t') :: st) = st_w K st := by
  obtain ⟨w1, w2, w3, w4, w5, w6, w7, w8, w9⟩ := W
  have ew : st_w K ((r, i, p', y', c', a', e', n', t') :: st) = st_w K st := by show _ + _ = _; rw [if_neg hc]; rfl
  refine ⟨⟨⟨w1, w2, w3, w4, ok, w6, hen, w8, w9⟩, w2, hj, tk_so18 hk, fr_ok0 _ _, ?_, fun z => by omega, ⟨h1, Or.inr ⟨hc, rfl, hij, hso, hNL⟩⟩, fun z => ?_⟩, ?_⟩
  · rw [ew]
    show st_y st + _ ≤ _
    omega
  · subst z
    split at hij <;> omega
  · show st_w K ((r, i, p', y', c', a', e', n', t') :: st) + _ = _
    rw [ew, if_neg (fun z => absurd z.2 (by decide))]
    rfl
/-- part o begins -/
theorem wf_part (P : pg_T K V Z U B LN) {r i p y c : Nat} {a e n : Int32} {t : Nat} {st : List Fr} (W : st_wf K V U LN ((r, i, p, y, c, a, e, n, t) :: st)) {o p' y' : Nat} {a' e' n' : Int32} {t' : Nat} (ho : o < tk_np (K (40 * r + i)) (V (40 * r + i))) (hc : ¬ (K (40 * r + i) = 8 ∧ p' = 2)) (h1 : 1 ≤ p') (ok : fr_ok (K (40 * r + i)) (V (40 * r + i)) p' y' 0) (hw : tk_wt (K (40 * r + i)) (V (40 * r + i)) o = fr_cs (K (40 * r + i)) p') (hen : p' = 3 → en_ok K V U r i e' n' t') : st_wf K V U LN ((r, tr_ca (ro Z r) i o, 0, 0, 0, 0, 0, 0, 0) :: (r, i, p', y', 0, a', e', n', t') :: st) ∧ st_w K ((r, tr_ca (ro Z r) i o, 0, 0, 0, 0, 0, 0, 0) :: (r, i, p', y', 0, a', e', n', t') :: st) = st_w K st := by
  have hr := W.2.1
  have hi := W.2.2.1
  have T := P r hr (by omega)
  obtain ⟨t1, t2, t3, t4⟩ := (T.2.2.2 i hi).2.2.1 o ho
  have hso : tk_so (K (40 * r + tr_ca (ro Z r) i o)) = fr_cs (K (40 * r + i)) p' := t4.trans hw
  have hL := T.2.1
  refine wf_push W hc h1 ok t1 ?_ (by rw [if_pos rfl]; exact tr_ca_gt T hi (Nat.le_of_lt ho)) hso (fun lab t' hm hn => tr_NL_up hm hn t3 (by omega) (by omega)) hen
  rw [hso]
  unfold fr_cs
  repeat' split
  all_goals omega
theorem tk_wt18 {v : Int32} {c : Nat} (h1 : 1 ≤ c) (h2 : c ≤ tk_cn v) : tk_wt 17 v c = 2 := by
  unfold tk_wt
  rw [if_pos rfl, if_pos (by omega)]
theorem tk_so2 {k v : Int32} (hk : tk_ok k v) (h : tk_so k = 2) : k = 18 := by
  rcases tk_kinds hk with rfl | rfl | rfl | rfl | rfl | rfl | rfl | rfl | rfl | rfl | rfl | rfl | rfl | rfl | rfl | rfl | rfl | rfl | rfl | rfl | rfl
  all_goals first | rfl | exact absurd h (by decide)
/-- the statement of catch c begins -/
theorem tr_catch (P : pg_T K V Z U B LN) {r i : Nat} (hr : r < 4) (hi : i < LN r) (hk : K (40 * r + i) = 17) {c : Nat} (h1 : 1 ≤ c) (h2 : c ≤ tk_cn (V (40 * r + i))) : c < tk_np (K (40 * r + i)) (V (40 * r + i)) ∧ tr_ca (ro Z r) i c < LN r ∧ K (40 * r + tr_ca (ro Z r) i c) = 18 ∧ tr_ca (ro Z r) i c + 1 < LN r ∧ tk_so (K (40 * r + (tr_ca (ro Z r) i c + 1))) = 1 ∧ U (40 * r + (tr_ca (ro Z r) i c + 1)) = nI (tr_ca (ro Z r) i c) ∧ U (40 * r + tr_ca (ro Z r) i c) = nI i ∧ i < tr_ca (ro Z r) i c ∧ tr_ca (ro Z r) i (c + 1) = tr_ca (ro Z r) i c + 1 + (Z (40 * r + (tr_ca (ro Z r) i c + 1))).toNatClampNeg ∧ B (160 * r + (4 * tr_ca (ro Z r) i c + 0)) = nI (tr_ca (ro Z r) i c + 1) := by
  have T := P r hr (by omega)
  have hL := T.2.1
  have hc : c < tk_np (K (40 * r + i)) (V (40 * r + i)) := by
    rw [hk]
    unfold tk_np
    rw [if_pos rfl]
    omega
  obtain ⟨t1, t2, t3, t4⟩ := (T.2.2.2 i hi).2.2.1 c hc
  have hw : tk_wt (ro K r i) (ro V r i) c = 2 := by
    show tk_wt (K (40 * r + i)) _ c = 2
    rw [hk]
    exact tk_wt18 h1 h2
  have ek : K (40 * r + tr_ca (ro Z r) i c) = 18 := tk_so2 (T.2.2.2 _ t1).1 (t4.trans hw)
  have hn : tk_np (ro K r (tr_ca (ro Z r) i c)) (ro V r (tr_ca (ro Z r) i c)) = 1 := by
    show tk_np (K (40 * r + tr_ca (ro Z r) i c)) _ = 1
    rw [ek]
    rfl
  obtain ⟨q1, q2, q3, q4⟩ := (T.2.2.2 _ t1).2.2.1 0 (by rw [hn]; omega)
  have e0 : tr_ca (ro Z r) (tr_ca (ro Z r) i c) 0 = tr_ca (ro Z r) i c + 1 := rfl
  rw [e0] at q1 q2 q3 q4
  refine ⟨hc, t1, ek, q1, q4.trans ?_, q3, t3, tr_ca_gt T hi (Nat.le_of_lt hc), ?_, q2⟩
  · show tk_wt (K (40 * r + tr_ca (ro Z r) i c)) _ 0 = 1
    rw [ek]
    rfl
  · obtain ⟨s, s1, s2, s3, s4, s5⟩ := tr_sz T t1
    rw [hn] at s4
    have e1 : tr_ca (ro Z r) (tr_ca (ro Z r) i c) 1 = tr_ca (ro Z r) i c + 1 + (Z (40 * r + (tr_ca (ro Z r) i c + 1))).toNatClampNeg := rfl
    rw [← e1, s4]
    show _ + _ = _
    rw [s5]
theorem wf_hand (P : pg_T K V Z U B LN) {r i p y c : Nat} {a e n : Int32} {t : Nat} {st : List Fr} (W : st_wf K V U LN ((r, i, p, y, c, a, e, n, t) :: st)) (hk : K (40 * r + i) = 17) {c' : Nat} (h1 : 1 ≤ c') (h2 : c' ≤ tk_cn (V (40 * r + i))) {a' e' n' : Int32} {t' : Nat} : st_wf K V U LN ((r, tr_ca (ro Z r) i c' + 1, 0, 0, 0, 0, 0, 0, 0) :: (r, i, 2, c' + 1, c', a', e', n', t') :: st) ∧ st_w K ((r, tr_ca (ro Z r) i c' + 1, 0, 0, 0, 0, 0, 0, 0) :: (r, i, 2, c' + 1, c', a', e', n', t') :: st) = st_w K st := by
  obtain ⟨_, t1, ek, t2, t3, t4, t5, t6, _, _⟩ := tr_catch P W.2.1 W.2.2.1 hk h1 h2
  have hL := (P r W.2.1 (by have := W.2.2.1; omega)).2.1
  have hi := W.2.2.1
  refine wf_push W (fun z => absurd (hk.symm.trans z.1) (by decide)) (by omega) (Or.inl ⟨hk, Or.inr (Or.inr (Or.inl ⟨rfl, rfl, h1, h2⟩))⟩) t2 (by rw [t3]; decide) (by rw [if_neg (by omega)]; omega) (by rw [t3, hk]; rfl) (fun lab t' hm hn => ?_) (fun z => by omega)
  have g := tr_NL_up hm hn t4 (by omega) (by omega)
  exact tr_NL_up (fun z => absurd (ek.symm.trans z.1) (by decide)) g t5 (by omega) (by omega)
/-- a function begins -/
theorem wf_call (P : pg_T K V Z U B LN) {r i p y c : Nat} {a e n : Int32} {t : Nat} {st : List Fr} (W : st_wf K V U LN ((r, i, p, y, c, a, e, n, t) :: st)) (hk : K (40 * r + i) = 8) {f : Nat} (hf : f < 4) (hL : 1 ≤ LN f) {a' e' n' : Int32} {t' : Nat} : st_wf K V U LN ((f, 0, 0, 0, 0, 0, 0, 0, 0) :: (r, i, 2, 2, 0, a', e', n', t') :: st) ∧ st_w K ((f, 0, 0, 0, 0, 0, 0, 0, 0) :: (r, i, 2, 2, 0, a', e', n', t') :: st) = st_w K st + 1 := by
  obtain ⟨w1, w2, w3, w4, w5, w6, w7, w8, w9⟩ := W
  have T := P f hf hL
  have T' := (P r w2 (by omega)).2.1
  have hs : tk_so (K (40 * f + 0)) = 1 := T.2.2.1
  have ew : st_w K ((r, i, 2, 2, 0, a', e', n', t') :: st) = st_w K st + 1 := by show _ + _ = _; rw [if_pos ⟨hk, rfl⟩]
  have hp := st_w_pos K st
  refine ⟨⟨⟨w1, w2, w3, w4, Or.inr (Or.inr (Or.inl ⟨Or.inr hk, rfl, by omega, rfl⟩)), w6, fun z => by omega, w8, w9⟩, hf, by omega, tk_so18 (by rw [hs]; decide), fr_ok0 _ _, ?_, fun z => by omega, ⟨by omega, Or.inl ⟨hk, rfl, rfl⟩⟩, fun _ => hs⟩, ?_⟩
  · rw [ew]
    show st_y st + 1 ≤ _
    omega
  · show st_w K ((r, i, 2, 2, 0, a', e', n', t') :: st) + _ = _
    rw [ew, if_neg (fun z => absurd z.2 (by decide))]
end
end
section
/-- the part that may begin next -/
def fr_ix (k v : Int32) (p : Nat) : Nat := if k = 12 ∨ k = 13 ∨ k = 8 then (if p ≤ 1 then p else tk_np k v) else if k = 17 then (if p ≤ 1 then p else if p = 2 then 1 + tk_cn v else tk_np k v) else p
/-- what is left to do in a frame -/
def ph_F (K V Z : Nat → Int32) (r i p : Nat) : Nat := 5 * (i + (Z (40 * r + i)).toNatClampNeg - tr_ca (ro Z r) i (fr_ix (K (40 * r + i)) (V (40 * r + i)) p)) + (5 - p)
def ph_S (K V Z : Nat → Int32) : List Fr → Nat
  | [] => 0
  | (r, i, p, _, _, _, _, _, _) :: st => ph_S K V Z st + ph_F K V Z r i p
theorem fr_ix0 (k v : Int32) : fr_ix k v 0 = 0 := by
  unfold fr_ix
  repeat' split
  all_goals first | rfl | omega
theorem fr_ix_le {k v : Int32} {p y c : Nat} (hk : tk_ok k v) (h : fr_ok k v p y c) : fr_ix k v p ≤ tk_np k v := by
  rcases h with ⟨rfl, h⟩ | ⟨rfl, _, h⟩ | ⟨rfl | rfl, _, h, _⟩ | ⟨h1, h2, h3, h4, _, _, h5, _⟩
  · rcases tk_try hk with rfl | rfl | rfl | rfl | rfl <;> rcases h with ⟨rfl, _⟩ | ⟨rfl, _⟩ | ⟨rfl, _⟩ | ⟨rfl, _⟩ <;> decide
  · rcases h with ⟨rfl, _⟩ | ⟨rfl, _⟩ | ⟨rfl, _⟩
    · exact Nat.zero_le _
    · show 1 ≤ 3; omega
    · exact Nat.le_refl _
  · have : p = 0 ∨ p = 1 ∨ p = 2 := by omega
    rcases this with rfl | rfl | rfl
    · exact Nat.zero_le _
    · show 1 ≤ 2; omega
    · exact Nat.le_refl _
  · have : p = 0 ∨ p = 1 ∨ p = 2 := by omega
    rcases this with rfl | rfl | rfl
    · exact Nat.zero_le _
    · exact Nat.le_refl _
    · exact Nat.le_refl _
  · unfold fr_ix
    rw [if_neg (by rintro (h | h | h); exact h2 h; exact h3 h; exact h4 h), if_neg h1]
    exact h5
section
variable {K V Z U B : Nat → Int32} {LN : Nat → Nat}
theorem ph_0 {r j s : Nat} (hs : (Z (40 * r + j)).toNatClampNeg = s) (h1 : 1 ≤ s) : ph_F K V Z r j 0 = 5 * s := by
  unfold ph_F
  rw [fr_ix0, hs]
  show 5 * (j + s - (j + 1)) + 5 = _
  omega
theorem ph_push (P : pg_T K V Z U B LN) {r i : Nat} (hr : r < 4) (hi : i < LN r) {p p' o j s : Nat} (hs : (Z (40 * r + j)).toNatClampNeg = s) (h1 : 1 ≤ s) (ho : o < tk_np (K (40 * r + i)) (V (40 * r + i))) (h2 : fr_ix (K (40 * r + i)) (V (40 * r + i)) p ≤ o) (h3 : o + 1 ≤ fr_ix (K (40 * r + i)) (V (40 * r + i)) p') (h4 : fr_ix (K (40 * r + i)) (V (40 * r + i)) p' ≤ tk_np (K (40 * r + i)) (V (40 * r + i))) (hp : p < p') (hp' : p' ≤ 5) (hj : tr_ca (ro Z r) i o ≤ j) (hjs : j + s ≤ tr_ca (ro Z r) i (o + 1)) : ph_F K V Z r j 0 + ph_F K V Z r i p' < ph_F K V Z r i p := by
  have T := P r hr (by omega)
  obtain ⟨z, z1, z2, z3, z4, z5⟩ := tr_sz T hi
  have a1 := tr_ca_le T hi h2 (Nat.le_of_lt ho)
  have a2 := tr_ca_le T hi h3 h4
  have a3 := tr_ca_le T hi h4 (Nat.le_refl _)
  have z5' : (Z (40 * r + i)).toNatClampNeg = z := z5
  have z4' : tr_ca (ro Z r) i (tk_np (K (40 * r + i)) (V (40 * r + i))) = i + z := z4
  have a3' : tr_ca (ro Z r) i (fr_ix (K (40 * r + i)) (V (40 * r + i)) p') ≤ tr_ca (ro Z r) i (tk_np (K (40 * r + i)) (V (40 * r + i))) := a3
  rw [ph_0 hs h1]
  unfold ph_F
  rw [z5']
  omega
theorem ph_part (P : pg_T K V Z U B LN) {r i : Nat} (hr : r < 4) (hi : i < LN r) {p p' o : Nat} (ho : o < tk_np (K (40 * r + i)) (V (40 * r + i))) (h2 : fr_ix (K (40 * r + i)) (V (40 * r + i)) p ≤ o) (h3 : o + 1 ≤ fr_ix (K (40 * r + i)) (V (40 * r + i)) p') (h4 : fr_ix (K (40 * r + i)) (V (40 * r + i)) p' ≤ tk_np (K (40 * r + i)) (V (40 * r + i))) (hp : p < p') (hp' : p' ≤ 5) : ph_F K V Z r (tr_ca (ro Z r) i o) 0 + ph_F K V Z r i p' < ph_F K V Z r i p := by
  have T := P r hr (by omega)
  obtain ⟨s, s1, s2, s3, s4, s5⟩ := tr_ca_s T hi ho
  exact ph_push P hr hi s5 s2 ho h2 h3 h4 hp hp' (Nat.le_refl _) (by rw [s4]; exact Nat.le_refl _)
/-- however much a frame has to do, it is at most this -/
theorem ph_F_le (P : pg_T K V Z U B LN) {r i : Nat} (hr : r < 4) (hi : i < LN r) (p : Nat) : ph_F K V Z r i p ≤ 200 := by
  have T := P r hr (by omega)
  obtain ⟨z, z1, z2, z3, z4, z5⟩ := tr_sz T hi
  have z5' : (Z (40 * r + i)).toNatClampNeg = z := z5
  have hL := T.2.1
  have := tr_ca_ge (z := ro Z r) (i := i) (fr_ix (K (40 * r + i)) (V (40 * r + i)) p)
  unfold ph_F
  rw [z5']
  omega
theorem ph_F_pos {r i p : Nat} (hp : p ≤ 3) : 2 ≤ ph_F K V Z r i p := by
  unfold ph_F
  omega
/-- a loop's next turn: condition and statement again, for a step -/
theorem ph_again (P : pg_T K V Z U B LN) {r i : Nat} (hr : r < 4) (hi : i < LN r) (hk : K (40 * r + i) = 13) (p : Nat) : ph_F K V Z r (tr_ca (ro Z r) i 0) 0 + ph_F K V Z r i 1 ≤ 199 := by
  have T := P r hr (by omega)
  have hn : tk_np (K (40 * r + i)) (V (40 * r + i)) = 2 := by rw [hk]; rfl
  have h1 : fr_ix (K (40 * r + i)) (V (40 * r + i)) 1 = 1 := by rw [hk]; rfl
  have := ph_part P hr hi (p := 0) (p' := 1) (o := 0) (by omega) (by rw [fr_ix0]; exact Nat.le_refl _) (by omega) (by omega) (by omega) (by omega)
  have := ph_F_le P hr hi 0
  omega
end
end
section
/-- X's entries stand for the frames -/
def sx_S (K ET EP KE KN KV : Nat → Int32) : List Fr → Prop
  | [] => True
  | (r, i, p, _, _, a, e, n, _) :: st => sx_S K ET EP KE KN KV st ∧ ET st.length = nI (40 * r + i) ∧ EP st.length = nI p ∧ (p = 3 → KE st.length = e ∧ KN st.length = n ∧ KV st.length = a) ∧ (fr_b (K (40 * r + i)) p = 1 → KV st.length = a)
theorem sx_keep {K ET EP KE KN KV ET' EP' KE' KN' KV' : Nat → Int32} : ∀ st : List Fr, (∀ q, q < st.length → ET' q = ET q) → (∀ q, q < st.length → EP' q = EP q) → (∀ q, q < st.length → KE' q = KE q) → (∀ q, q < st.length → KN' q = KN q) → (∀ q, q < st.length → KV' q = KV q) → sx_S K ET EP KE KN KV st → sx_S K ET' EP' KE' KN' KV' st := by
  intro st
  induction st with
  | nil => intro _ _ _ _ _ _; trivial
  | cons f st ih =>
    obtain ⟨r, i, p, y, c, a, e, n, t⟩ := f
    intro h1 h2 h3 h4 h5 h
    obtain ⟨a1, a2, a3, a4, a5⟩ := h
    have hl : st.length < ((r, i, p, y, c, a, e, n, t) :: st).length := Nat.lt_succ_self _
    refine ⟨ih (fun q hq => h1 q (Nat.lt_succ_of_lt hq)) (fun q hq => h2 q (Nat.lt_succ_of_lt hq)) (fun q hq => h3 q (Nat.lt_succ_of_lt hq)) (fun q hq => h4 q (Nat.lt_succ_of_lt hq)) (fun q hq => h5 q (Nat.lt_succ_of_lt hq)) a1, (h1 _ hl).trans a2, (h2 _ hl).trans a3, fun z => ?_, fun z => (h5 _ hl).trans (a5 z)⟩
    obtain ⟨b1, b2, b3⟩ := a4 z
    exact ⟨(h3 _ hl).trans b1, (h4 _ hl).trans b2, (h5 _ hl).trans b3⟩
theorem fr_b0 (k : Int32) : ¬ fr_b k 0 = 1 := by
  unfold fr_b
  rw [if_neg (fun z => absurd z.2 (by decide))]
  decide
theorem st_w0 {K : Nat → Int32} {r j : Nat} {st : List Fr} : st_w K ((r, j, 0, 0, 0, 0, 0, 0, 0) :: st) = st_w K st := by
  show _ + _ = _
  rw [if_neg (fun z => absurd z.2 (by decide))]
  rfl
/-- X's loop from any state that stands for the frames -/
def XA (f_expectedCount f_draftLength f_latestPlace : Int32) (K V Z HB EX : Nat → Int32) (post : Int32 → SX → Prop) (m turn : Nat) (st : List Fr) (e n v : Int32) (s q : Nat) (va ou : Nat → Int32) : Prop :=
  ∀ ET EP KE KN KV : Nat → Int32, sx_S K ET EP KE KN KV st → wX_run_34 post m (nI turn) f_expectedCount f_draftLength f_latestPlace (nI st.length) (nI (st_w K st)) e n v (nI s) (nI q) 0 0 (-1) K V Z HB EX ET EP KE KN KV va ou
/-- what X's loop does with the part that comes next -/
def xc_K (post : Int32 → SX → Prop) (m turn : Nat) : Int32 → SX → Prop := fun r u => match u with
  | (f_expectedCount, f_draftLength, f_latestPlace, f_entryCount, f_working, f_ending, f_endNote, f_endValue, f_sayCount, f_stepCount, f_tooLong, f_latestResult, f_latestKind, a_tokenKind, a_tokenValue, a_tokenSize, a_hasBody, a_expected, a_entryToken, a_entryPhase, a_keptEnding, a_keptNote, a_keptValue, a_variables, a_output) => (r = (-1) → ∀ y : Int32, y = f_entryCount - 1 → ∀ z : Int32, z = nI turn + 1 → wX_run_34 post m z f_expectedCount f_draftLength f_latestPlace y f_working f_ending f_endNote f_endValue f_sayCount f_stepCount f_tooLong f_latestResult f_latestKind a_tokenKind a_tokenValue a_tokenSize a_hasBody a_expected a_entryToken a_entryPhase a_keptEnding a_keptNote a_keptValue a_variables a_output) ∧ (¬ r = (-1) → wpX_push (fun u => match u with
    | (f_expectedCount, f_draftLength, f_latestPlace, f_entryCount, f_working, f_ending, f_endNote, f_endValue, f_sayCount, f_stepCount, f_tooLong, f_latestResult, f_latestKind, a_tokenKind, a_tokenValue, a_tokenSize, a_hasBody, a_expected, a_entryToken, a_entryPhase, a_keptEnding, a_keptNote, a_keptValue, a_variables, a_output) => ∀ z : Int32, z = nI turn + 1 → wX_run_34 post m z f_expectedCount f_draftLength f_latestPlace f_entryCount f_working f_ending f_endNote f_endValue f_sayCount f_stepCount f_tooLong f_latestResult f_latestKind a_tokenKind a_tokenValue a_tokenSize a_hasBody a_expected a_entryToken a_entryPhase a_keptEnding a_keptNote a_keptValue a_variables a_output) (f_expectedCount, f_draftLength, f_latestPlace, f_entryCount, f_working, f_ending, f_endNote, f_endValue, f_sayCount, f_stepCount, f_tooLong, f_latestResult, f_latestKind, a_tokenKind, a_tokenValue, a_tokenSize, a_hasBody, a_expected, a_entryToken, a_entryPhase, a_keptEnding, a_keptNote, a_keptValue, a_variables, a_output) r)
/-- how a run may end: answer, result, kind, outputs, steps, variables, output -/
def XF (f_expectedCount f_draftLength f_latestPlace : Int32) (K V Z HB EX : Nat → Int32) (post : Int32 → SX → Prop) (r res kd : Int32) (s q : Nat) (va ou : Nat → Int32) : Prop :=
  ∀ (f_entryCount f_working f_ending f_endNote f_endValue f_tooLong : Int32) (ET EP KE KN KV : Nat → Int32), post r (f_expectedCount, f_draftLength, f_latestPlace, f_entryCount, f_working, f_ending, f_endNote, f_endValue, nI s, nI q, f_tooLong, res, kd, K, V, Z, HB, EX, ET, EP, KE, KN, KV, va, ou)
section
variable {f_expectedCount f_draftLength f_latestPlace f_entryCount f_working f_ending f_endNote f_endValue f_sayCount f_stepCount f_tooLong f_latestResult f_latestKind : Int32} {a_tokenKind a_tokenValue a_tokenSize a_hasBody a_expected a_entryToken a_entryPhase a_keptEnding a_keptNote a_keptValue a_variables a_output : Nat → Int32} {K V Z HB EX ET EP KE KN KV va ou : Nat → Int32} {post : Int32 → SX → Prop} {m turn : Nat} {st : List Fr} {e n v : Int32} {s q : Nat}
theorem xs_enter {c : Nat} (ht : turn < 1000000) (hc : c < 1000) (h : wpX_nextPart (xc_K post m turn) (f_expectedCount, f_draftLength, f_latestPlace, nI (c + 1), f_working, f_ending, f_endNote, f_endValue, f_sayCount, f_stepCount, 0, f_latestResult, f_latestKind, a_tokenKind, a_tokenValue, a_tokenSize, a_hasBody, a_expected, a_entryToken, a_entryPhase, a_keptEnding, a_keptNote, a_keptValue, a_variables, a_output)) : wX_run_34 post (m + 1) (nI turn) f_expectedCount f_draftLength f_latestPlace (nI (c + 1)) f_working f_ending f_endNote f_endValue f_sayCount f_stepCount 0 f_latestResult f_latestKind a_tokenKind a_tokenValue a_tokenSize a_hasBody a_expected a_entryToken a_entryPhase a_keptEnding a_keptNote a_keptValue a_variables a_output :=
  br_f (nI_ge (b := 1000000) ht (by decide)) (br_f (nI_nle (by omega) (by omega)) (br_t rfl h))
theorem xk_push {r j : Nat} (hl : st.length < 480) (hj : 40 * r + j < 200) (hs : sx_S K ET EP KE KN KV st) (h : XA f_expectedCount f_draftLength f_latestPlace K V Z HB EX post m (turn + 1) ((r, j, 0, 0, 0, 0, 0, 0, 0) :: st) 0 n v s q va ou) : xc_K post m turn (nI (40 * r + j)) (f_expectedCount, f_draftLength, f_latestPlace, nI st.length, nI (st_w K st), e, n, v, nI s, nI q, 0, 0, -1, K, V, Z, HB, EX, ET, EP, KE, KN, KV, va, ou) := by
  refine br_f (qb_ne_m1 (by omega)) (br_t (nI_lt (b := 480) hl (by decide)) ⟨vp_in_nI hl (by decide), nm_r (e' := upd ET st.length (nI (40 * r + j))) (by rw [nI_clamp (by omega)]) ⟨vp_in_nI hl (by decide), nm_r (e' := upd EP st.length 0) (by rw [nI_clamp (by omega)]) (nm_r (nI_1 _) (nm_r (nI_1 turn) ?_))⟩⟩)
  have := h (upd ET st.length (nI (40 * r + j))) (upd EP st.length 0) KE KN KV ⟨sx_keep st (fun q hq => pk_un (by omega)) (fun q hq => pk_un (by omega)) (fun _ _ => rfl) (fun _ _ => rfl) (fun _ _ => rfl) hs, pk_us, pk_us, fun z => by omega, fun z => (fr_b0 _ z).elim⟩
  rw [st_w0] at this
  exact this
theorem xk_pop (hs : sx_S K ET EP KE KN KV st) (h : XA f_expectedCount f_draftLength f_latestPlace K V Z HB EX post m (turn + 1) st e n v s q va ou) : xc_K post m turn (-1) (f_expectedCount, f_draftLength, f_latestPlace, nI (st.length + 1), nI (st_w K st), e, n, v, nI s, nI q, 0, 0, -1, K, V, Z, HB, EX, ET, EP, KE, KN, KV, va, ou) :=
  br_t rfl (nm_r (nI_pred _) (nm_r (nI_1 turn) (h ET EP KE KN KV hs)))
theorem xk_over (h : XF f_expectedCount f_draftLength f_latestPlace K V Z HB EX post 4 0 (-1) s q va ou) : xc_K post (m + 1) turn (-1) (f_expectedCount, f_draftLength, f_latestPlace, f_entryCount, f_working, e, n, v, nI s, nI q, 1, 0, -1, K, V, Z, HB, EX, ET, EP, KE, KN, KV, va, ou) := by
  have g : ∀ y z : Int32, wX_run_34 post (m + 1) z f_expectedCount f_draftLength f_latestPlace y f_working e n v (nI s) (nI q) 1 0 (-1) K V Z HB EX ET EP KE KN KV va ou := by
    intro y z
    have k : wX_run_92 post f_expectedCount f_draftLength f_latestPlace y f_working e n v (nI s) (nI q) 1 0 (-1) K V Z HB EX ET EP KE KN KV va ou := br_f (by decide) (h _ _ _ _ _ _ _ _ _ _ _)
    exact br_c (fun _ => k) (fun _ => br_c (fun _ => k) (fun _ => br_f (by decide) k))
  exact br_t rfl (fun y _ z _ => g y z)
theorem xa_nil0 (h : XF f_expectedCount f_draftLength f_latestPlace K V Z HB EX post 0 0 (-1) s q va ou) : XA f_expectedCount f_draftLength f_latestPlace K V Z HB EX post 1 turn [] 0 n v s q va ou := by
  intro ET EP KE KN KV _
  have k : wX_run_92 post f_expectedCount f_draftLength f_latestPlace (nI 0) (nI (st_w K [])) 0 n v (nI s) (nI q) 0 0 (-1) K V Z HB EX ET EP KE KN KV va ou := br_t rfl (br_f (by decide) (br_f (by decide) (h _ _ _ _ _ _ _ _ _ _ _)))
  exact br_c (fun _ => k) (fun _ => br_t (by decide) k)
theorem xa_nil3 (h : XF f_expectedCount f_draftLength f_latestPlace K V Z HB EX post 0 v (-1) s q va ou) : XA f_expectedCount f_draftLength f_latestPlace K V Z HB EX post 1 turn [] 3 n v s q va ou := by
  intro ET EP KE KN KV _
  have k : wX_run_92 post f_expectedCount f_draftLength f_latestPlace (nI 0) (nI (st_w K [])) 3 n v (nI s) (nI q) 0 0 (-1) K V Z HB EX ET EP KE KN KV va ou := br_t rfl (br_f (by decide) (br_t (by decide) (h _ _ _ _ _ _ _ _ _ _ _)))
  exact br_c (fun _ => k) (fun _ => br_t (by decide) k)
theorem xa_nil4 (h : XF f_expectedCount f_draftLength f_latestPlace K V Z HB EX post 3 v n s q va ou) : XA f_expectedCount f_draftLength f_latestPlace K V Z HB EX post 1 turn [] 4 n v s q va ou := by
  intro ET EP KE KN KV _
  have k : wX_run_92 post f_expectedCount f_draftLength f_latestPlace (nI 0) (nI (st_w K [])) 4 n v (nI s) (nI q) 0 0 (-1) K V Z HB EX ET EP KE KN KV va ou := br_t rfl (br_t (by decide) (h _ _ _ _ _ _ _ _ _ _ _))
  exact br_c (fun _ => k) (fun _ => br_t (by decide) k)
end
section
variable {f_expectedCount f_draftLength f_latestPlace f_entryCount f_working f_ending f_endNote f_endValue f_sayCount f_stepCount f_tooLong f_latestResult f_latestKind : Int32} {a_tokenKind a_tokenValue a_tokenSize a_hasBody a_expected a_entryToken a_entryPhase a_keptEnding a_keptNote a_keptValue a_variables a_output : Nat → Int32} {post : Int32 → SX → Prop} {l j p : Nat}
theorem xn_call (hl : l < 480) (hj : j < 200) (eT : a_entryToken l = nI j) (eP : a_entryPhase l = nI p) (hk : a_tokenKind j = 8) (h : wpX_nextOfCall post (f_expectedCount, f_draftLength, f_latestPlace, nI (l + 1), f_working, f_ending, f_endNote, f_endValue, f_sayCount, f_stepCount, f_tooLong, f_latestResult, f_latestKind, a_tokenKind, a_tokenValue, a_tokenSize, a_hasBody, a_expected, a_entryToken, upd a_entryPhase l (nI (p + 1)), a_keptEnding, a_keptNote, a_keptValue, a_variables, a_output) (nI l) (nI p)) : wpX_nextPart post (f_expectedCount, f_draftLength, f_latestPlace, nI (l + 1), f_working, f_ending, f_endNote, f_endValue, f_sayCount, f_stepCount, f_tooLong, f_latestResult, f_latestKind, a_tokenKind, a_tokenValue, a_tokenSize, a_hasBody, a_expected, a_entryToken, a_entryPhase, a_keptEnding, a_keptNote, a_keptValue, a_variables, a_output) := by
  refine nm_r (e' := nI l) (nI_pred l) ⟨vp_in_nI hl (by decide), nm_r (e' := nI j) (by rw [nI_clamp (by omega), eT]) ⟨vp_in_nI hl (by decide), nm_r (e' := nI p) (by rw [nI_clamp (by omega), eP]) ⟨vp_in_nI hl (by decide), nm_r (e' := upd a_entryPhase l (nI (p + 1))) (by rw [nI_clamp (by omega), nI_1]) ⟨vp_in_nI hj (by decide), nm_r (e' := 8) (by rw [nI_clamp (by omega), hk]) ?_⟩⟩⟩⟩
  repeat (first | exact h | refine br_t (by decide) ?_ | refine br_f (by decide) ?_)
theorem xn_if (hl : l < 480) (hj : j < 200) (eT : a_entryToken l = nI j) (eP : a_entryPhase l = nI p) (hk : a_tokenKind j = 12) (h : wpX_nextOfIf (fun r => post r (f_expectedCount, f_draftLength, f_latestPlace, nI (l + 1), f_working, f_ending, f_endNote, f_endValue, f_sayCount, f_stepCount, f_tooLong, f_latestResult, f_latestKind, a_tokenKind, a_tokenValue, a_tokenSize, a_hasBody, a_expected, a_entryToken, upd a_entryPhase l (nI (p + 1)), a_keptEnding, a_keptNote, a_keptValue, a_variables, a_output)) (f_expectedCount, f_draftLength, f_latestPlace, nI (l + 1), f_working, f_ending, f_endNote, f_endValue, f_sayCount, f_stepCount, f_tooLong, f_latestResult, f_latestKind, a_tokenKind, a_tokenValue, a_tokenSize, a_hasBody, a_expected, a_entryToken, upd a_entryPhase l (nI (p + 1)), a_keptEnding, a_keptNote, a_keptValue, a_variables, a_output) (nI j) (nI p)) : wpX_nextPart post (f_expectedCount, f_draftLength, f_latestPlace, nI (l + 1), f_working, f_ending, f_endNote, f_endValue, f_sayCount, f_stepCount, f_tooLong, f_latestResult, f_latestKind, a_tokenKind, a_tokenValue, a_tokenSize, a_hasBody, a_expected, a_entryToken, a_entryPhase, a_keptEnding, a_keptNote, a_keptValue, a_variables, a_output) := by
  refine nm_r (e' := nI l) (nI_pred l) ⟨vp_in_nI hl (by decide), nm_r (e' := nI j) (by rw [nI_clamp (by omega), eT]) ⟨vp_in_nI hl (by decide), nm_r (e' := nI p) (by rw [nI_clamp (by omega), eP]) ⟨vp_in_nI hl (by decide), nm_r (e' := upd a_entryPhase l (nI (p + 1))) (by rw [nI_clamp (by omega), nI_1]) ⟨vp_in_nI hj (by decide), nm_r (e' := 12) (by rw [nI_clamp (by omega), hk]) ?_⟩⟩⟩⟩
  repeat (first | exact h | refine br_t (by decide) ?_ | refine br_f (by decide) ?_)
theorem xn_while (hl : l < 480) (hj : j < 200) (eT : a_entryToken l = nI j) (eP : a_entryPhase l = nI p) (hk : a_tokenKind j = 13) (h : wpX_nextOfWhile post (f_expectedCount, f_draftLength, f_latestPlace, nI (l + 1), f_working, f_ending, f_endNote, f_endValue, f_sayCount, f_stepCount, f_tooLong, f_latestResult, f_latestKind, a_tokenKind, a_tokenValue, a_tokenSize, a_hasBody, a_expected, a_entryToken, upd a_entryPhase l (nI (p + 1)), a_keptEnding, a_keptNote, a_keptValue, a_variables, a_output) (nI l) (nI p)) : wpX_nextPart post (f_expectedCount, f_draftLength, f_latestPlace, nI (l + 1), f_working, f_ending, f_endNote, f_endValue, f_sayCount, f_stepCount, f_tooLong, f_latestResult, f_latestKind, a_tokenKind, a_tokenValue, a_tokenSize, a_hasBody, a_expected, a_entryToken, a_entryPhase, a_keptEnding, a_keptNote, a_keptValue, a_variables, a_output) := by
  refine nm_r (e' := nI l) (nI_pred l) ⟨vp_in_nI hl (by decide), nm_r (e' := nI j) (by rw [nI_clamp (by omega), eT]) ⟨vp_in_nI hl (by decide), nm_r (e' := nI p) (by rw [nI_clamp (by omega), eP]) ⟨vp_in_nI hl (by decide), nm_r (e' := upd a_entryPhase l (nI (p + 1))) (by rw [nI_clamp (by omega), nI_1]) ⟨vp_in_nI hj (by decide), nm_r (e' := 13) (by rw [nI_clamp (by omega), hk]) ?_⟩⟩⟩⟩
  repeat (first | exact h | refine br_t (by decide) ?_ | refine br_f (by decide) ?_)
theorem xn_try (hl : l < 480) (hj : j < 200) (eT : a_entryToken l = nI j) (eP : a_entryPhase l = nI p) (hk : a_tokenKind j = 17) (h : wpX_nextOfTry post (f_expectedCount, f_draftLength, f_latestPlace, nI (l + 1), f_working, f_ending, f_endNote, f_endValue, f_sayCount, f_stepCount, f_tooLong, f_latestResult, f_latestKind, a_tokenKind, a_tokenValue, a_tokenSize, a_hasBody, a_expected, a_entryToken, upd a_entryPhase l (nI (p + 1)), a_keptEnding, a_keptNote, a_keptValue, a_variables, a_output) (nI l) (nI p)) : wpX_nextPart post (f_expectedCount, f_draftLength, f_latestPlace, nI (l + 1), f_working, f_ending, f_endNote, f_endValue, f_sayCount, f_stepCount, f_tooLong, f_latestResult, f_latestKind, a_tokenKind, a_tokenValue, a_tokenSize, a_hasBody, a_expected, a_entryToken, a_entryPhase, a_keptEnding, a_keptNote, a_keptValue, a_variables, a_output) := by
  refine nm_r (e' := nI l) (nI_pred l) ⟨vp_in_nI hl (by decide), nm_r (e' := nI j) (by rw [nI_clamp (by omega), eT]) ⟨vp_in_nI hl (by decide), nm_r (e' := nI p) (by rw [nI_clamp (by omega), eP]) ⟨vp_in_nI hl (by decide), nm_r (e' := upd a_entryPhase l (nI (p + 1))) (by rw [nI_clamp (by omega), nI_1]) ⟨vp_in_nI hj (by decide), nm_r (e' := 17) (by rw [nI_clamp (by omega), hk]) ?_⟩⟩⟩⟩
  repeat (first | exact h | refine br_t (by decide) ?_ | refine br_f (by decide) ?_)
def tk_plain (k : Int32) : Prop := k ≠ 8 ∧ k ≠ 12 ∧ k ≠ 13 ∧ k ≠ 17
theorem xn_plain (hl : l < 480) (hj : j < 200) (eT : a_entryToken l = nI j) (eP : a_entryPhase l = nI p) {v : Int32} (hk : tk_ok (a_tokenKind j) v) (hp : tk_plain (a_tokenKind j)) (h : wpX_nextOfPlain post (f_expectedCount, f_draftLength, f_latestPlace, nI (l + 1), f_working, f_ending, f_endNote, f_endValue, f_sayCount, f_stepCount, f_tooLong, f_latestResult, f_latestKind, a_tokenKind, a_tokenValue, a_tokenSize, a_hasBody, a_expected, a_entryToken, upd a_entryPhase l (nI (p + 1)), a_keptEnding, a_keptNote, a_keptValue, a_variables, a_output) (nI l) (nI p)) : wpX_nextPart post (f_expectedCount, f_draftLength, f_latestPlace, nI (l + 1), f_working, f_ending, f_endNote, f_endValue, f_sayCount, f_stepCount, f_tooLong, f_latestResult, f_latestKind, a_tokenKind, a_tokenValue, a_tokenSize, a_hasBody, a_expected, a_entryToken, a_entryPhase, a_keptEnding, a_keptNote, a_keptValue, a_variables, a_output) := by
  refine nm_r (e' := nI l) (nI_pred l) ⟨vp_in_nI hl (by decide), nm_r (e' := nI j) (by rw [nI_clamp (by omega), eT]) ⟨vp_in_nI hl (by decide), nm_r (e' := nI p) (by rw [nI_clamp (by omega), eP]) ⟨vp_in_nI hl (by decide), nm_r (e' := upd a_entryPhase l (nI (p + 1))) (by rw [nI_clamp (by omega), nI_1]) ⟨vp_in_nI hj (by decide), nm_r (e' := a_tokenKind j) (by rw [nI_clamp (by omega)]) ?_⟩⟩⟩⟩
  obtain ⟨h8, h12, h13, h17⟩ := hp
  have h' : wX_nextPart_120 post (nI l) (nI p) f_expectedCount f_draftLength f_latestPlace (nI (l + 1)) f_working f_ending f_endNote f_endValue f_sayCount f_stepCount f_tooLong f_latestResult f_latestKind a_tokenKind a_tokenValue a_tokenSize a_hasBody a_expected a_entryToken (upd a_entryPhase l (nI (p + 1))) a_keptEnding a_keptNote a_keptValue a_variables a_output := h
  have hk' := tk_kinds hk
  generalize hkk : a_tokenKind j = k at hk' h8 h12 h13 h17 ⊢
  rcases hk' with e | e | e | e | e | e | e | e | e | e | e | e | e | e | e | e | e | e | e | e | e <;> cases e
  all_goals first
    | exact absurd rfl h8
    | exact absurd rfl h12
    | exact absurd rfl h13
    | exact absurd rfl h17
    | (repeat (first | exact h' | refine br_t (by decide) ?_ | refine br_f (by decide) ?_))
end
end
section
/-- the parts' places are within -/
theorem tr_pa {K V Z U B : Nat → Int32} {LN : Nat → Nat} (P : pg_T K V Z U B LN) {r i : Nat} (hr : r < 4) (hi : i < LN r) {o : Nat} (ho : o ≤ tk_np (K (40 * r + i)) (V (40 * r + i))) : ∀ q, q < o → ∃ s, 40 * r + tr_ca (fun i => Z (40 * r + i)) i q < 200 ∧ Z (40 * r + tr_ca (fun i => Z (40 * r + i)) i q) = nI s ∧ s ≤ 200 := by
  intro q hq
  have T := P r hr (by omega)
  have hL := T.2.1
  obtain ⟨s, s1, s2, s3, s4, s5⟩ := tr_ca_s T hi (o := q) (Nat.lt_of_lt_of_le hq ho)
  exact ⟨s, by have : tr_ca (fun i => Z (40 * r + i)) i q + s ≤ LN r := s3; omega, s1, by omega⟩
theorem pg_tok {K V Z U B : Nat → Int32} {LN : Nat → Nat} (P : pg_T K V Z U B LN) {r i : Nat} (hr : r < 4) (hi : i < LN r) : tk_ok (K (40 * r + i)) (V (40 * r + i)) ∧ 40 * r + i < 160 ∧ i < 40 := by
  have T := P r hr (by omega)
  have hL := T.2.1
  exact ⟨(T.2.2.2 i hi).1, by omega, by omega⟩
/-- the variable's place -/
theorem vx_ix {w m : Nat} (h1 : 1 ≤ w) : (nI w - 1) * 6 + nI m = nI (6 * (w - 1) + m) := by
  obtain ⟨x, rfl⟩ : ∃ x, w = x + 1 := ⟨w - 1, by omega⟩
  rw [nI_pred, show nI x * 6 = nI (x * 6) from pk_mul x 6, nI_add]
  exact congrArg nI (by omega)
/-- the variables of a function that begins -/
def vz (va : Nat → Int32) (w m : Nat) : Nat → Int32 := fun q => if 6 * w ≤ q ∧ q < 6 * w + m then 0 else va q
def vset (va : Nat → Int32) (w : Nat) (x : Int32) : Nat → Int32 := upd (vz va w 6) (6 * w) x
theorem vz_s {va : Nat → Int32} {w m : Nat} : upd (vz va w m) (6 * w + m) 0 = vz va w (m + 1) := by
  funext q
  unfold upd vz
  by_cases e : q = 6 * w + m
  · rw [if_pos e, if_pos (by omega)]
  · rw [if_neg e]
    by_cases e2 : 6 * w ≤ q ∧ q < 6 * w + m
    · rw [if_pos e2, if_pos (by omega)]
    · rw [if_neg e2, if_neg (by omega)]
theorem vz_0 {va : Nat → Int32} {w : Nat} : vz va w 0 = va := by
  funext q
  exact if_neg (by omega)
/-- catch c of the TRY at token i takes an exception of kind n -/
def ct_m (V Z : Nat → Int32) (r i : Nat) (n : Int32) (c : Nat) : Prop := V (40 * r + tr_ca (ro Z r) i c) &&& 7 = n ∨ V (40 * r + tr_ca (ro Z r) i c) &&& 7 = 4
section
variable {f_expectedCount f_draftLength f_latestPlace f_entryCount f_working f_ending f_endNote f_endValue f_sayCount f_stepCount f_tooLong f_latestResult f_latestKind : Int32} {a_tokenKind a_tokenValue a_tokenSize a_hasBody a_expected a_entryToken a_entryPhase a_keptEnding a_keptNote a_keptValue a_variables a_output : Nat → Int32} {post : Int32 → SX → Prop} {l r i p : Nat} {U B : Nat → Int32} {LN : Nat → Nat}
theorem xp_push (P : pg_T a_tokenKind a_tokenValue a_tokenSize U B LN) (hr : r < 4) (hi : i < LN r) (hl : l < 480) (eT : a_entryToken l = nI (40 * r + i)) (hp : p < tk_np (a_tokenKind (40 * r + i)) (a_tokenValue (40 * r + i))) (h : post (nI (40 * r + tr_ca (ro a_tokenSize r) i p)) (f_expectedCount, f_draftLength, f_latestPlace, f_entryCount, f_working, 0, f_endNote, f_endValue, f_sayCount, f_stepCount, f_tooLong, f_latestResult, f_latestKind, a_tokenKind, a_tokenValue, a_tokenSize, a_hasBody, a_expected, a_entryToken, a_entryPhase, a_keptEnding, a_keptNote, upd a_keptValue l f_endValue, a_variables, a_output)) : wpX_nextOfPlain post (f_expectedCount, f_draftLength, f_latestPlace, f_entryCount, f_working, 0, f_endNote, f_endValue, f_sayCount, f_stepCount, f_tooLong, f_latestResult, f_latestKind, a_tokenKind, a_tokenValue, a_tokenSize, a_hasBody, a_expected, a_entryToken, a_entryPhase, a_keptEnding, a_keptNote, a_keptValue, a_variables, a_output) (nI l) (nI p) := by
  obtain ⟨hk, hj, hi40⟩ := pg_tok P hr hi
  have h4 := tk_np_le hk
  exact ⟨vp_in_nI hl (by decide), nm_r (e' := nI (40 * r + i)) (by rw [nI_clamp (by omega), eT]) (br_t rfl (qx_parts (by omega) hk (br_f (nI_ge hp (by omega)) ⟨vp_in_nI hl (by decide), nm_r (by rw [nI_clamp (by omega)]) (qx_partAt (tr_pa P hr hi (by omega)) (by omega) h)⟩)))⟩
theorem xp_stop (hl : l < 480) (he : ¬ f_ending = 0) (h : post (-1) (f_expectedCount, f_draftLength, f_latestPlace, f_entryCount, f_working, f_ending, f_endNote, f_endValue, f_sayCount, f_stepCount, f_tooLong, f_latestResult, f_latestKind, a_tokenKind, a_tokenValue, a_tokenSize, a_hasBody, a_expected, a_entryToken, a_entryPhase, a_keptEnding, a_keptNote, a_keptValue, a_variables, a_output)) : wpX_nextOfPlain post (f_expectedCount, f_draftLength, f_latestPlace, f_entryCount, f_working, f_ending, f_endNote, f_endValue, f_sayCount, f_stepCount, f_tooLong, f_latestResult, f_latestKind, a_tokenKind, a_tokenValue, a_tokenSize, a_hasBody, a_expected, a_entryToken, a_entryPhase, a_keptEnding, a_keptNote, a_keptValue, a_variables, a_output) (nI l) (nI p) := ⟨vp_in_nI hl (by decide), nm_e (br_f he h)⟩
theorem xp_finx (P : pg_T a_tokenKind a_tokenValue a_tokenSize U B LN) (hr : r < 4) (hi : i < LN r) (hl : l < 480) (eT : a_entryToken l = nI (40 * r + i)) (hp : tk_np (a_tokenKind (40 * r + i)) (a_tokenValue (40 * r + i)) ≤ p) (hp2 : p < 10) (hs : tk_so (a_tokenKind (40 * r + i)) = 0) (h : wpX_finishExpression (post (-1)) (f_expectedCount, f_draftLength, f_latestPlace, f_entryCount, f_working, 0, f_endNote, f_endValue, f_sayCount, f_stepCount, f_tooLong, f_latestResult, f_latestKind, a_tokenKind, a_tokenValue, a_tokenSize, a_hasBody, a_expected, a_entryToken, a_entryPhase, a_keptEnding, a_keptNote, a_keptValue, a_variables, a_output) (nI (40 * r + i)) (a_keptValue l)) : wpX_nextOfPlain post (f_expectedCount, f_draftLength, f_latestPlace, f_entryCount, f_working, 0, f_endNote, f_endValue, f_sayCount, f_stepCount, f_tooLong, f_latestResult, f_latestKind, a_tokenKind, a_tokenValue, a_tokenSize, a_hasBody, a_expected, a_entryToken, a_entryPhase, a_keptEnding, a_keptNote, a_keptValue, a_variables, a_output) (nI l) (nI p) := by
  obtain ⟨hk, hj, hi40⟩ := pg_tok P hr hi
  have h4 := tk_np_le hk
  refine ⟨vp_in_nI hl (by decide), nm_r (e' := nI (40 * r + i)) (by rw [nI_clamp (by omega), eT]) (br_t rfl (qx_parts (by omega) hk (br_t (nI_le hp (by omega)) ⟨vp_in_nI (by omega) (by decide), ?_⟩)))⟩
  rw [nI_clamp (n := 40 * r + i) (by omega)]
  refine qx_sort hk (br_t (by rw [hs]; rfl) ⟨vp_in_nI hl (by decide), ?_⟩)
  rw [nI_clamp (n := l) (by omega)]
  exact h
theorem xp_fins (P : pg_T a_tokenKind a_tokenValue a_tokenSize U B LN) (hr : r < 4) (hi : i < LN r) (hl : l < 480) (eT : a_entryToken l = nI (40 * r + i)) (hp : tk_np (a_tokenKind (40 * r + i)) (a_tokenValue (40 * r + i)) ≤ p) (hp2 : p < 10) (hs : tk_so (a_tokenKind (40 * r + i)) = 1) (h : wpX_finishStatement (post (-1)) (f_expectedCount, f_draftLength, f_latestPlace, f_entryCount, f_working, 0, f_endNote, f_endValue, f_sayCount, f_stepCount, f_tooLong, f_latestResult, f_latestKind, a_tokenKind, a_tokenValue, a_tokenSize, a_hasBody, a_expected, a_entryToken, a_entryPhase, a_keptEnding, a_keptNote, a_keptValue, a_variables, a_output) (nI (40 * r + i))) : wpX_nextOfPlain post (f_expectedCount, f_draftLength, f_latestPlace, f_entryCount, f_working, 0, f_endNote, f_endValue, f_sayCount, f_stepCount, f_tooLong, f_latestResult, f_latestKind, a_tokenKind, a_tokenValue, a_tokenSize, a_hasBody, a_expected, a_entryToken, a_entryPhase, a_keptEnding, a_keptNote, a_keptValue, a_variables, a_output) (nI l) (nI p) := by
  obtain ⟨hk, hj, hi40⟩ := pg_tok P hr hi
  have h4 := tk_np_le hk
  refine ⟨vp_in_nI hl (by decide), nm_r (e' := nI (40 * r + i)) (by rw [nI_clamp (by omega), eT]) (br_t rfl (qx_parts (by omega) hk (br_t (nI_le hp (by omega)) ⟨vp_in_nI (by omega) (by decide), ?_⟩)))⟩
  rw [nI_clamp (n := 40 * r + i) (by omega)]
  refine qx_sort hk (br_f (by rw [hs]; decide) h)
end
section
variable {f_expectedCount f_draftLength f_latestPlace f_entryCount f_working f_ending f_endNote f_endValue f_sayCount f_stepCount f_tooLong f_latestResult f_latestKind : Int32} {a_tokenKind a_tokenValue a_tokenSize a_hasBody a_expected a_entryToken a_entryPhase a_keptEnding a_keptNote a_keptValue a_variables a_output : Nat → Int32} {post : SX → Prop} {j : Nat}
theorem xf_num (hj : j < 200) (hk : a_tokenKind j = 0) (a : Int32) (h : post (f_expectedCount, f_draftLength, f_latestPlace, f_entryCount, f_working, f_ending, f_endNote, a_tokenValue j, f_sayCount, f_stepCount, f_tooLong, f_latestResult, f_latestKind, a_tokenKind, a_tokenValue, a_tokenSize, a_hasBody, a_expected, a_entryToken, a_entryPhase, a_keptEnding, a_keptNote, a_keptValue, a_variables, a_output)) : wpX_finishExpression post (f_expectedCount, f_draftLength, f_latestPlace, f_entryCount, f_working, f_ending, f_endNote, f_endValue, f_sayCount, f_stepCount, f_tooLong, f_latestResult, f_latestKind, a_tokenKind, a_tokenValue, a_tokenSize, a_hasBody, a_expected, a_entryToken, a_entryPhase, a_keptEnding, a_keptNote, a_keptValue, a_variables, a_output) (nI j) a := by
  refine ⟨vp_in_nI hj (by decide), nm_r (e' := 0) (by rw [nI_clamp (by omega), hk]) ?_⟩
  refine br_f (by decide) (br_f (by decide) (br_t (by decide) ⟨vp_in_nI hj (by decide), nm_r (by rw [nI_clamp (by omega)]) h⟩))
theorem xf_var {w m : Nat} (hj : j < 200) (hk : a_tokenKind j = 1) (hv : a_tokenValue j = nI m) (hm : m < 6) (h1 : 1 ≤ w) (h12 : w ≤ 12) (a : Int32) (h : post (f_expectedCount, f_draftLength, f_latestPlace, f_entryCount, nI w, f_ending, f_endNote, a_variables (6 * (w - 1) + m), f_sayCount, f_stepCount, f_tooLong, f_latestResult, f_latestKind, a_tokenKind, a_tokenValue, a_tokenSize, a_hasBody, a_expected, a_entryToken, a_entryPhase, a_keptEnding, a_keptNote, a_keptValue, a_variables, a_output)) : wpX_finishExpression post (f_expectedCount, f_draftLength, f_latestPlace, f_entryCount, nI w, f_ending, f_endNote, f_endValue, f_sayCount, f_stepCount, f_tooLong, f_latestResult, f_latestKind, a_tokenKind, a_tokenValue, a_tokenSize, a_hasBody, a_expected, a_entryToken, a_entryPhase, a_keptEnding, a_keptNote, a_keptValue, a_variables, a_output) (nI j) a := by
  refine ⟨vp_in_nI hj (by decide), nm_r (e' := 1) (by rw [nI_clamp (by omega), hk]) ?_⟩
  refine br_f (by decide) (br_f (by decide) (br_f (by decide) (br_t (by decide) ⟨vp_in_nI hj (by decide), ?_⟩)))
  rw [nI_clamp (by omega), hv]
  refine ⟨by rw [vx_ix h1]; exact vp_in_nI (by omega) (by decide), ?_⟩
  rw [vx_ix h1, nI_clamp (by omega)]
  exact h
theorem xf_add (hj : j < 200) (hk : a_tokenKind j = 2) (a : Int32) (h : post (f_expectedCount, f_draftLength, f_latestPlace, f_entryCount, f_working, f_ending, f_endNote, a + f_endValue, f_sayCount, f_stepCount, f_tooLong, f_latestResult, f_latestKind, a_tokenKind, a_tokenValue, a_tokenSize, a_hasBody, a_expected, a_entryToken, a_entryPhase, a_keptEnding, a_keptNote, a_keptValue, a_variables, a_output)) : wpX_finishExpression post (f_expectedCount, f_draftLength, f_latestPlace, f_entryCount, f_working, f_ending, f_endNote, f_endValue, f_sayCount, f_stepCount, f_tooLong, f_latestResult, f_latestKind, a_tokenKind, a_tokenValue, a_tokenSize, a_hasBody, a_expected, a_entryToken, a_entryPhase, a_keptEnding, a_keptNote, a_keptValue, a_variables, a_output) (nI j) a := by
  refine ⟨vp_in_nI hj (by decide), nm_r (e' := 2) (by rw [nI_clamp (by omega), hk]) ?_⟩
  exact br_f (by decide) (br_f (by decide) (br_f (by decide) (br_f (by decide) (br_t (by decide) (nm_e h)))))
theorem xf_sub (hj : j < 200) (hk : a_tokenKind j = 3) (a : Int32) (h : post (f_expectedCount, f_draftLength, f_latestPlace, f_entryCount, f_working, f_ending, f_endNote, a - f_endValue, f_sayCount, f_stepCount, f_tooLong, f_latestResult, f_latestKind, a_tokenKind, a_tokenValue, a_tokenSize, a_hasBody, a_expected, a_entryToken, a_entryPhase, a_keptEnding, a_keptNote, a_keptValue, a_variables, a_output)) : wpX_finishExpression post (f_expectedCount, f_draftLength, f_latestPlace, f_entryCount, f_working, f_ending, f_endNote, f_endValue, f_sayCount, f_stepCount, f_tooLong, f_latestResult, f_latestKind, a_tokenKind, a_tokenValue, a_tokenSize, a_hasBody, a_expected, a_entryToken, a_entryPhase, a_keptEnding, a_keptNote, a_keptValue, a_variables, a_output) (nI j) a := by
  refine ⟨vp_in_nI hj (by decide), nm_r (e' := 3) (by rw [nI_clamp (by omega), hk]) ?_⟩
  exact br_f (by decide) (br_f (by decide) (br_f (by decide) (br_f (by decide) (br_f (by decide) (br_t (by decide) (nm_e h))))))
theorem xf_mul (hj : j < 200) (hk : a_tokenKind j = 4) (a : Int32) (h : post (f_expectedCount, f_draftLength, f_latestPlace, f_entryCount, f_working, f_ending, f_endNote, a * f_endValue, f_sayCount, f_stepCount, f_tooLong, f_latestResult, f_latestKind, a_tokenKind, a_tokenValue, a_tokenSize, a_hasBody, a_expected, a_entryToken, a_entryPhase, a_keptEnding, a_keptNote, a_keptValue, a_variables, a_output)) : wpX_finishExpression post (f_expectedCount, f_draftLength, f_latestPlace, f_entryCount, f_working, f_ending, f_endNote, f_endValue, f_sayCount, f_stepCount, f_tooLong, f_latestResult, f_latestKind, a_tokenKind, a_tokenValue, a_tokenSize, a_hasBody, a_expected, a_entryToken, a_entryPhase, a_keptEnding, a_keptNote, a_keptValue, a_variables, a_output) (nI j) a := by
  refine ⟨vp_in_nI hj (by decide), nm_r (e' := 4) (by rw [nI_clamp (by omega), hk]) ?_⟩
  exact br_f (by decide) (br_f (by decide) (br_f (by decide) (br_f (by decide) (br_f (by decide) (br_f (by decide) (br_t (by decide) (nm_e h)))))))
theorem xf_div0 (hj : j < 200) (hk : a_tokenKind j = 5) (a : Int32) (h : post (f_expectedCount, f_draftLength, f_latestPlace, f_entryCount, f_working, 4, 0, a, f_sayCount, f_stepCount, f_tooLong, f_latestResult, f_latestKind, a_tokenKind, a_tokenValue, a_tokenSize, a_hasBody, a_expected, a_entryToken, a_entryPhase, a_keptEnding, a_keptNote, a_keptValue, a_variables, a_output)) : wpX_finishExpression post (f_expectedCount, f_draftLength, f_latestPlace, f_entryCount, f_working, f_ending, f_endNote, 0, f_sayCount, f_stepCount, f_tooLong, f_latestResult, f_latestKind, a_tokenKind, a_tokenValue, a_tokenSize, a_hasBody, a_expected, a_entryToken, a_entryPhase, a_keptEnding, a_keptNote, a_keptValue, a_variables, a_output) (nI j) a := by
  refine ⟨vp_in_nI hj (by decide), nm_r (e' := 5) (by rw [nI_clamp (by omega), hk]) ?_⟩
  exact br_f (by decide) (br_f (by decide) (br_f (by decide) (br_f (by decide) (br_f (by decide) (br_f (by decide) (br_f (by decide) (br_t (by decide) (br_t rfl h))))))))
theorem xf_div (hj : j < 200) (hk : a_tokenKind j = 5) (a : Int32) (hz : ¬ f_endValue = 0) (h : post (f_expectedCount, f_draftLength, f_latestPlace, f_entryCount, f_working, f_ending, f_endNote, a / f_endValue, f_sayCount, f_stepCount, f_tooLong, f_latestResult, f_latestKind, a_tokenKind, a_tokenValue, a_tokenSize, a_hasBody, a_expected, a_entryToken, a_entryPhase, a_keptEnding, a_keptNote, a_keptValue, a_variables, a_output)) : wpX_finishExpression post (f_expectedCount, f_draftLength, f_latestPlace, f_entryCount, f_working, f_ending, f_endNote, f_endValue, f_sayCount, f_stepCount, f_tooLong, f_latestResult, f_latestKind, a_tokenKind, a_tokenValue, a_tokenSize, a_hasBody, a_expected, a_entryToken, a_entryPhase, a_keptEnding, a_keptNote, a_keptValue, a_variables, a_output) (nI j) a := by
  refine ⟨vp_in_nI hj (by decide), nm_r (e' := 5) (by rw [nI_clamp (by omega), hk]) ?_⟩
  exact br_f (by decide) (br_f (by decide) (br_f (by decide) (br_f (by decide) (br_f (by decide) (br_f (by decide) (br_f (by decide) (br_t (by decide) (br_f hz ⟨hz, nm_e h⟩))))))))
theorem xf_less (hj : j < 200) (hk : a_tokenKind j = 6) (a : Int32) (h : post (f_expectedCount, f_draftLength, f_latestPlace, f_entryCount, f_working, f_ending, f_endNote, if f_endValue ≤ a then 0 else 1, f_sayCount, f_stepCount, f_tooLong, f_latestResult, f_latestKind, a_tokenKind, a_tokenValue, a_tokenSize, a_hasBody, a_expected, a_entryToken, a_entryPhase, a_keptEnding, a_keptNote, a_keptValue, a_variables, a_output)) : wpX_finishExpression post (f_expectedCount, f_draftLength, f_latestPlace, f_entryCount, f_working, f_ending, f_endNote, f_endValue, f_sayCount, f_stepCount, f_tooLong, f_latestResult, f_latestKind, a_tokenKind, a_tokenValue, a_tokenSize, a_hasBody, a_expected, a_entryToken, a_entryPhase, a_keptEnding, a_keptNote, a_keptValue, a_variables, a_output) (nI j) a := by
  refine ⟨vp_in_nI hj (by decide), nm_r (e' := 6) (by rw [nI_clamp (by omega), hk]) ?_⟩
  refine br_f (by decide) (br_f (by decide) (br_f (by decide) (br_f (by decide) (br_f (by decide) (br_f (by decide) (br_f (by decide) (br_f (by decide) (br_t (by decide) ?_))))))))
  exact br_c (fun z => by rw [if_pos z] at h; exact h) (fun z => by rw [if_neg z] at h; exact h)
theorem xf_not (hj : j < 200) (hk : a_tokenKind j = 7) (a : Int32) (h : post (f_expectedCount, f_draftLength, f_latestPlace, f_entryCount, f_working, f_ending, f_endNote, if f_endValue = 0 then 1 else 0, f_sayCount, f_stepCount, f_tooLong, f_latestResult, f_latestKind, a_tokenKind, a_tokenValue, a_tokenSize, a_hasBody, a_expected, a_entryToken, a_entryPhase, a_keptEnding, a_keptNote, a_keptValue, a_variables, a_output)) : wpX_finishExpression post (f_expectedCount, f_draftLength, f_latestPlace, f_entryCount, f_working, f_ending, f_endNote, f_endValue, f_sayCount, f_stepCount, f_tooLong, f_latestResult, f_latestKind, a_tokenKind, a_tokenValue, a_tokenSize, a_hasBody, a_expected, a_entryToken, a_entryPhase, a_keptEnding, a_keptNote, a_keptValue, a_variables, a_output) (nI j) a := by
  refine ⟨vp_in_nI hj (by decide), nm_r (e' := 7) (by rw [nI_clamp (by omega), hk]) ?_⟩
  refine br_f (by decide) (br_f (by decide) (br_f (by decide) (br_f (by decide) (br_f (by decide) (br_f (by decide) (br_f (by decide) (br_f (by decide) (br_f (by decide) (br_t (by decide) ?_)))))))))
  exact br_c (fun z => by rw [if_pos z] at h; exact h) (fun z => by rw [if_neg z] at h; exact h)
theorem xg_set {w m : Nat} (hj : j < 200) (hk : a_tokenKind j = 10) (hv : a_tokenValue j = nI m) (hm : m < 6) (h1 : 1 ≤ w) (h12 : w ≤ 12) (h : post (f_expectedCount, f_draftLength, f_latestPlace, f_entryCount, nI w, f_ending, f_endNote, f_endValue, f_sayCount, f_stepCount, f_tooLong, f_latestResult, f_latestKind, a_tokenKind, a_tokenValue, a_tokenSize, a_hasBody, a_expected, a_entryToken, a_entryPhase, a_keptEnding, a_keptNote, a_keptValue, upd a_variables (6 * (w - 1) + m) f_endValue, a_output)) : wpX_finishStatement post (f_expectedCount, f_draftLength, f_latestPlace, f_entryCount, nI w, f_ending, f_endNote, f_endValue, f_sayCount, f_stepCount, f_tooLong, f_latestResult, f_latestKind, a_tokenKind, a_tokenValue, a_tokenSize, a_hasBody, a_expected, a_entryToken, a_entryPhase, a_keptEnding, a_keptNote, a_keptValue, a_variables, a_output) (nI j) := by
  refine ⟨vp_in_nI hj (by decide), nm_r (e' := nI m) (by rw [nI_clamp (by omega), hv]) ⟨vp_in_nI hj (by decide), nm_r (e' := 10) (by rw [nI_clamp (by omega), hk]) ?_⟩⟩
  refine br_f (by decide) (br_f (by decide) (br_t (by decide) ⟨by rw [vx_ix h1]; exact vp_in_nI (by omega) (by decide), nm_r ?_ h⟩))
  rw [vx_ix h1, nI_clamp (by omega)]
theorem xg_say {s : Nat} (hj : j < 200) (hk : a_tokenKind j = 11) (hs : s < 2000000) (h : post (f_expectedCount, f_draftLength, f_latestPlace, f_entryCount, f_working, f_ending, f_endNote, f_endValue, nI (s + 1), f_stepCount, f_tooLong, f_latestResult, f_latestKind, a_tokenKind, a_tokenValue, a_tokenSize, a_hasBody, a_expected, a_entryToken, a_entryPhase, a_keptEnding, a_keptNote, a_keptValue, a_variables, if s < 40 then upd a_output s f_endValue else a_output)) : wpX_finishStatement post (f_expectedCount, f_draftLength, f_latestPlace, f_entryCount, f_working, f_ending, f_endNote, f_endValue, nI s, f_stepCount, f_tooLong, f_latestResult, f_latestKind, a_tokenKind, a_tokenValue, a_tokenSize, a_hasBody, a_expected, a_entryToken, a_entryPhase, a_keptEnding, a_keptNote, a_keptValue, a_variables, a_output) (nI j) := by
  refine ⟨vp_in_nI hj (by decide), nm_e ⟨vp_in_nI hj (by decide), nm_r (e' := 11) (by rw [nI_clamp (by omega), hk]) ?_⟩⟩
  refine br_f (by decide) (br_f (by decide) (br_f (by decide) (br_t (by decide) ?_)))
  by_cases h40 : s < 40
  · rw [if_pos h40] at h
    exact br_f (nI_ge (b := 40) h40 (by decide)) ⟨vp_in_nI h40 (by decide), nm_r (by rw [nI_clamp (by omega)]) (nm_r (nI_1 s) h)⟩
  · rw [if_neg h40] at h
    exact br_t (nI_le (a := 40) (by omega) (by omega)) (nm_r (nI_1 s) h)
theorem xg_throw (hj : j < 200) (hk : a_tokenKind j = 16) (h : post (f_expectedCount, f_draftLength, f_latestPlace, f_entryCount, f_working, 4, a_tokenValue j, f_endValue, f_sayCount, f_stepCount, f_tooLong, f_latestResult, f_latestKind, a_tokenKind, a_tokenValue, a_tokenSize, a_hasBody, a_expected, a_entryToken, a_entryPhase, a_keptEnding, a_keptNote, a_keptValue, a_variables, a_output)) : wpX_finishStatement post (f_expectedCount, f_draftLength, f_latestPlace, f_entryCount, f_working, f_ending, f_endNote, f_endValue, f_sayCount, f_stepCount, f_tooLong, f_latestResult, f_latestKind, a_tokenKind, a_tokenValue, a_tokenSize, a_hasBody, a_expected, a_entryToken, a_entryPhase, a_keptEnding, a_keptNote, a_keptValue, a_variables, a_output) (nI j) := by
  refine ⟨vp_in_nI hj (by decide), nm_r (e' := a_tokenValue j) (by rw [nI_clamp (by omega)]) ⟨vp_in_nI hj (by decide), nm_r (e' := 16) (by rw [nI_clamp (by omega), hk]) ?_⟩⟩
  repeat (first | exact h | refine br_t (by decide) ?_ | refine br_f (by decide) ?_)
theorem xg_break (hj : j < 200) (hk : a_tokenKind j = 19) (h : post (f_expectedCount, f_draftLength, f_latestPlace, f_entryCount, f_working, 1, a_tokenValue j, 0, f_sayCount, f_stepCount, f_tooLong, f_latestResult, f_latestKind, a_tokenKind, a_tokenValue, a_tokenSize, a_hasBody, a_expected, a_entryToken, a_entryPhase, a_keptEnding, a_keptNote, a_keptValue, a_variables, a_output)) : wpX_finishStatement post (f_expectedCount, f_draftLength, f_latestPlace, f_entryCount, f_working, f_ending, f_endNote, f_endValue, f_sayCount, f_stepCount, f_tooLong, f_latestResult, f_latestKind, a_tokenKind, a_tokenValue, a_tokenSize, a_hasBody, a_expected, a_entryToken, a_entryPhase, a_keptEnding, a_keptNote, a_keptValue, a_variables, a_output) (nI j) := by
  refine ⟨vp_in_nI hj (by decide), nm_r (e' := a_tokenValue j) (by rw [nI_clamp (by omega)]) ⟨vp_in_nI hj (by decide), nm_r (e' := 19) (by rw [nI_clamp (by omega), hk]) ?_⟩⟩
  repeat (first | exact h | refine br_t (by decide) ?_ | refine br_f (by decide) ?_)
theorem xg_cont (hj : j < 200) (hk : a_tokenKind j = 20) (h : post (f_expectedCount, f_draftLength, f_latestPlace, f_entryCount, f_working, 2, a_tokenValue j, 0, f_sayCount, f_stepCount, f_tooLong, f_latestResult, f_latestKind, a_tokenKind, a_tokenValue, a_tokenSize, a_hasBody, a_expected, a_entryToken, a_entryPhase, a_keptEnding, a_keptNote, a_keptValue, a_variables, a_output)) : wpX_finishStatement post (f_expectedCount, f_draftLength, f_latestPlace, f_entryCount, f_working, f_ending, f_endNote, f_endValue, f_sayCount, f_stepCount, f_tooLong, f_latestResult, f_latestKind, a_tokenKind, a_tokenValue, a_tokenSize, a_hasBody, a_expected, a_entryToken, a_entryPhase, a_keptEnding, a_keptNote, a_keptValue, a_variables, a_output) (nI j) := by
  refine ⟨vp_in_nI hj (by decide), nm_r (e' := a_tokenValue j) (by rw [nI_clamp (by omega)]) ⟨vp_in_nI hj (by decide), nm_r (e' := 20) (by rw [nI_clamp (by omega), hk]) ?_⟩⟩
  repeat (first | exact h | refine br_t (by decide) ?_ | refine br_f (by decide) ?_)
theorem xg_ret (hj : j < 200) (hk : a_tokenKind j = 21) (h : post (f_expectedCount, f_draftLength, f_latestPlace, f_entryCount, f_working, 3, 0, f_endValue, f_sayCount, f_stepCount, f_tooLong, f_latestResult, f_latestKind, a_tokenKind, a_tokenValue, a_tokenSize, a_hasBody, a_expected, a_entryToken, a_entryPhase, a_keptEnding, a_keptNote, a_keptValue, a_variables, a_output)) : wpX_finishStatement post (f_expectedCount, f_draftLength, f_latestPlace, f_entryCount, f_working, f_ending, f_endNote, f_endValue, f_sayCount, f_stepCount, f_tooLong, f_latestResult, f_latestKind, a_tokenKind, a_tokenValue, a_tokenSize, a_hasBody, a_expected, a_entryToken, a_entryPhase, a_keptEnding, a_keptNote, a_keptValue, a_variables, a_output) (nI j) := by
  refine ⟨vp_in_nI hj (by decide), nm_e ⟨vp_in_nI hj (by decide), nm_r (e' := 21) (by rw [nI_clamp (by omega), hk]) ?_⟩⟩
  repeat (first | exact h | refine br_t (by decide) ?_ | refine br_f (by decide) ?_)
theorem xg_skip (hj : j < 200) (hk : a_tokenKind j = 15 ∨ a_tokenKind j = 14) (h : post (f_expectedCount, f_draftLength, f_latestPlace, f_entryCount, f_working, f_ending, f_endNote, f_endValue, f_sayCount, f_stepCount, f_tooLong, f_latestResult, f_latestKind, a_tokenKind, a_tokenValue, a_tokenSize, a_hasBody, a_expected, a_entryToken, a_entryPhase, a_keptEnding, a_keptNote, a_keptValue, a_variables, a_output)) : wpX_finishStatement post (f_expectedCount, f_draftLength, f_latestPlace, f_entryCount, f_working, f_ending, f_endNote, f_endValue, f_sayCount, f_stepCount, f_tooLong, f_latestResult, f_latestKind, a_tokenKind, a_tokenValue, a_tokenSize, a_hasBody, a_expected, a_entryToken, a_entryPhase, a_keptEnding, a_keptNote, a_keptValue, a_variables, a_output) (nI j) := by
  rcases hk with hk | hk
  · refine ⟨vp_in_nI hj (by decide), nm_e ⟨vp_in_nI hj (by decide), nm_r (e' := 15) (by rw [nI_clamp (by omega), hk]) ?_⟩⟩
    repeat (first | exact h | refine br_t (by decide) ?_ | refine br_f (by decide) ?_)
  · refine ⟨vp_in_nI hj (by decide), nm_e ⟨vp_in_nI hj (by decide), nm_r (e' := 14) (by rw [nI_clamp (by omega), hk]) ?_⟩⟩
    repeat (first | exact h | refine br_t (by decide) ?_ | refine br_f (by decide) ?_)
end
end
section
section
variable {f_expectedCount f_draftLength f_latestPlace f_entryCount f_working f_ending f_endNote f_endValue f_sayCount f_stepCount f_tooLong f_latestResult f_latestKind : Int32} {a_tokenKind a_tokenValue a_tokenSize a_hasBody a_expected a_entryToken a_entryPhase a_keptEnding a_keptNote a_keptValue a_variables a_output : Nat → Int32} {post : Int32 → SX → Prop} {l r i p : Nat} {U B : Nat → Int32} {LN : Nat → Nat}
theorem xi_part {post : Int32 → Prop} (P : pg_T a_tokenKind a_tokenValue a_tokenSize U B LN) (hr : r < 4) (hi : i < LN r) (hk : a_tokenKind (40 * r + i) = 12) (h : post (nI (40 * r + tr_ca (ro a_tokenSize r) i (if f_endValue = 0 then 2 else 1)))) : wpX_nextOfIf post (f_expectedCount, f_draftLength, f_latestPlace, f_entryCount, f_working, 0, f_endNote, f_endValue, f_sayCount, f_stepCount, f_tooLong, f_latestResult, f_latestKind, a_tokenKind, a_tokenValue, a_tokenSize, a_hasBody, a_expected, a_entryToken, a_entryPhase, a_keptEnding, a_keptNote, a_keptValue, a_variables, a_output) (nI (40 * r + i)) (nI 1) := by
  have hn : tk_np (a_tokenKind (40 * r + i)) (a_tokenValue (40 * r + i)) = 3 := by rw [hk]; rfl
  refine br_f (by decide) (br_f (by decide) (br_t rfl (br_c (fun z => ?_) (fun z => ?_))))
  · rw [if_pos z] at h
    exact qx_partAt (o := 2) (tr_pa P hr hi (by omega)) (by omega) h
  · rw [if_neg z] at h
    exact qx_partAt (o := 1) (tr_pa P hr hi (by omega)) (by omega) h
theorem xi_0 {post : Int32 → Prop} {j : Nat} (h : post (nI (j + 1))) : wpX_nextOfIf post (f_expectedCount, f_draftLength, f_latestPlace, f_entryCount, f_working, f_ending, f_endNote, f_endValue, f_sayCount, f_stepCount, f_tooLong, f_latestResult, f_latestKind, a_tokenKind, a_tokenValue, a_tokenSize, a_hasBody, a_expected, a_entryToken, a_entryPhase, a_keptEnding, a_keptNote, a_keptValue, a_variables, a_output) (nI j) (nI 0) := br_t rfl (by rw [nI_1]; exact h)
theorem xi_stop {post : Int32 → Prop} {j : Nat} (hp : p = 2 ∨ (p = 1 ∧ ¬ f_ending = 0)) (h : post (-1)) : wpX_nextOfIf post (f_expectedCount, f_draftLength, f_latestPlace, f_entryCount, f_working, f_ending, f_endNote, f_endValue, f_sayCount, f_stepCount, f_tooLong, f_latestResult, f_latestKind, a_tokenKind, a_tokenValue, a_tokenSize, a_hasBody, a_expected, a_entryToken, a_entryPhase, a_keptEnding, a_keptNote, a_keptValue, a_variables, a_output) (nI j) (nI p) := by
  rcases hp with rfl | ⟨rfl, he⟩
  · exact br_f (by decide) (br_t rfl h)
  · exact br_f (by decide) (br_f (by decide) (br_f he h))
/-- a loop's step -/
theorem xw_step {q j : Nat} (hl : l < 480) (hq : q < 300) (h : post (nI (j + 1)) (f_expectedCount, f_draftLength, f_latestPlace, f_entryCount, f_working, f_ending, f_endNote, f_endValue, f_sayCount, nI (q + 1), f_tooLong, f_latestResult, f_latestKind, a_tokenKind, a_tokenValue, a_tokenSize, a_hasBody, a_expected, a_entryToken, upd a_entryPhase l 1, a_keptEnding, a_keptNote, a_keptValue, a_variables, a_output)) : wX_nextOfWhile_57 post (nI l) (nI j) f_expectedCount f_draftLength f_latestPlace f_entryCount f_working f_ending f_endNote f_endValue f_sayCount (nI q) f_tooLong f_latestResult f_latestKind a_tokenKind a_tokenValue a_tokenSize a_hasBody a_expected a_entryToken a_entryPhase a_keptEnding a_keptNote a_keptValue a_variables a_output :=
  br_t (nI_lt (b := 300) hq (by decide)) (nm_r (nI_1 q) (br_f (by decide) ⟨vp_in_nI hl (by decide), nm_r (e' := upd a_entryPhase l 1) (by rw [nI_clamp (by omega)]) (by rw [nI_1]; exact h)⟩))
theorem xw_over {j : Nat} (h : post (-1) (f_expectedCount, f_draftLength, f_latestPlace, f_entryCount, f_working, f_ending, f_endNote, f_endValue, f_sayCount, nI 300, 1, f_latestResult, f_latestKind, a_tokenKind, a_tokenValue, a_tokenSize, a_hasBody, a_expected, a_entryToken, a_entryPhase, a_keptEnding, a_keptNote, a_keptValue, a_variables, a_output)) : wX_nextOfWhile_57 post (nI l) (nI j) f_expectedCount f_draftLength f_latestPlace f_entryCount f_working f_ending f_endNote f_endValue f_sayCount (nI 300) f_tooLong f_latestResult f_latestKind a_tokenKind a_tokenValue a_tokenSize a_hasBody a_expected a_entryToken a_entryPhase a_keptEnding a_keptNote a_keptValue a_variables a_output :=
  br_f (by decide) (br_t rfl h)
theorem xw_0 {j : Nat} (hl : l < 480) (hj : j < 200) (eT : a_entryToken l = nI j) (h : wX_nextOfWhile_57 post (nI l) (nI j) f_expectedCount f_draftLength f_latestPlace f_entryCount f_working f_ending f_endNote f_endValue f_sayCount f_stepCount f_tooLong f_latestResult f_latestKind a_tokenKind a_tokenValue a_tokenSize a_hasBody a_expected a_entryToken a_entryPhase a_keptEnding a_keptNote a_keptValue a_variables a_output) : wpX_nextOfWhile post (f_expectedCount, f_draftLength, f_latestPlace, f_entryCount, f_working, f_ending, f_endNote, f_endValue, f_sayCount, f_stepCount, f_tooLong, f_latestResult, f_latestKind, a_tokenKind, a_tokenValue, a_tokenSize, a_hasBody, a_expected, a_entryToken, a_entryPhase, a_keptEnding, a_keptNote, a_keptValue, a_variables, a_output) (nI l) (nI 0) :=
  ⟨vp_in_nI hl (by decide), nm_r (e' := nI j) (by rw [nI_clamp (by omega), eT]) (br_f (by decide) (br_f (by decide) h))⟩
theorem xw_1go (P : pg_T a_tokenKind a_tokenValue a_tokenSize U B LN) (hr : r < 4) (hi : i < LN r) (hk : a_tokenKind (40 * r + i) = 13) (hl : l < 480) (eT : a_entryToken l = nI (40 * r + i)) (hv : ¬ f_endValue = 0) (h : post (nI (40 * r + tr_ca (ro a_tokenSize r) i 1)) (f_expectedCount, f_draftLength, f_latestPlace, f_entryCount, f_working, 0, f_endNote, f_endValue, f_sayCount, f_stepCount, f_tooLong, f_latestResult, f_latestKind, a_tokenKind, a_tokenValue, a_tokenSize, a_hasBody, a_expected, a_entryToken, a_entryPhase, a_keptEnding, a_keptNote, a_keptValue, a_variables, a_output)) : wpX_nextOfWhile post (f_expectedCount, f_draftLength, f_latestPlace, f_entryCount, f_working, 0, f_endNote, f_endValue, f_sayCount, f_stepCount, f_tooLong, f_latestResult, f_latestKind, a_tokenKind, a_tokenValue, a_tokenSize, a_hasBody, a_expected, a_entryToken, a_entryPhase, a_keptEnding, a_keptNote, a_keptValue, a_variables, a_output) (nI l) (nI 1) := by
  have hn : tk_np (a_tokenKind (40 * r + i)) (a_tokenValue (40 * r + i)) = 2 := by rw [hk]; rfl
  exact ⟨vp_in_nI hl (by decide), nm_r (e' := nI (40 * r + i)) (by rw [nI_clamp (by omega), eT]) (br_t rfl (br_t rfl (br_f hv (qx_partAt (o := 1) (tr_pa P hr hi (by omega)) (by omega) h))))⟩
theorem xw_1stop (hl : l < 480) (hv : f_ending = 0 → f_endValue = 0) (h : post (-1) (f_expectedCount, f_draftLength, f_latestPlace, f_entryCount, f_working, f_ending, f_endNote, f_endValue, f_sayCount, f_stepCount, f_tooLong, f_latestResult, f_latestKind, a_tokenKind, a_tokenValue, a_tokenSize, a_hasBody, a_expected, a_entryToken, a_entryPhase, a_keptEnding, a_keptNote, a_keptValue, a_variables, a_output)) : wpX_nextOfWhile post (f_expectedCount, f_draftLength, f_latestPlace, f_entryCount, f_working, f_ending, f_endNote, f_endValue, f_sayCount, f_stepCount, f_tooLong, f_latestResult, f_latestKind, a_tokenKind, a_tokenValue, a_tokenSize, a_hasBody, a_expected, a_entryToken, a_entryPhase, a_keptEnding, a_keptNote, a_keptValue, a_variables, a_output) (nI l) (nI 1) :=
  ⟨vp_in_nI hl (by decide), nm_e (br_t rfl (br_c (fun z => br_t (hv z) h) (fun _ => h)))⟩
theorem xw_2go {j : Nat} (hl : l < 480) (hj : j < 200) (eT : a_entryToken l = nI j) (he : f_ending = 0 ∨ (f_ending = 2 ∧ f_endNote = a_tokenValue j)) (h : wX_nextOfWhile_57 post (nI l) (nI j) f_expectedCount f_draftLength f_latestPlace f_entryCount f_working f_ending f_endNote f_endValue f_sayCount f_stepCount f_tooLong f_latestResult f_latestKind a_tokenKind a_tokenValue a_tokenSize a_hasBody a_expected a_entryToken a_entryPhase a_keptEnding a_keptNote a_keptValue a_variables a_output) : wpX_nextOfWhile post (f_expectedCount, f_draftLength, f_latestPlace, f_entryCount, f_working, f_ending, f_endNote, f_endValue, f_sayCount, f_stepCount, f_tooLong, f_latestResult, f_latestKind, a_tokenKind, a_tokenValue, a_tokenSize, a_hasBody, a_expected, a_entryToken, a_entryPhase, a_keptEnding, a_keptNote, a_keptValue, a_variables, a_output) (nI l) (nI 2) := by
  refine ⟨vp_in_nI hl (by decide), nm_r (e' := nI j) (by rw [nI_clamp (by omega), eT]) (br_f (by decide) (br_t rfl ⟨vp_in_nI hj (by decide), ?_⟩))⟩
  rw [nI_clamp (n := j) (by omega)]
  rcases he with rfl | ⟨rfl, hn⟩
  · exact br_f (by decide) (br_t rfl (br_f (by decide) h))
  · exact br_f (by decide) (br_f (by decide) (br_t rfl (br_t hn (br_f (by decide) h))))
theorem xw_2brk {j : Nat} (hl : l < 480) (hj : j < 200) (eT : a_entryToken l = nI j) (h : post (-1) (f_expectedCount, f_draftLength, f_latestPlace, f_entryCount, f_working, 0, a_tokenValue j, f_endValue, f_sayCount, f_stepCount, f_tooLong, f_latestResult, f_latestKind, a_tokenKind, a_tokenValue, a_tokenSize, a_hasBody, a_expected, a_entryToken, a_entryPhase, a_keptEnding, a_keptNote, a_keptValue, a_variables, a_output)) : wpX_nextOfWhile post (f_expectedCount, f_draftLength, f_latestPlace, f_entryCount, f_working, 1, a_tokenValue j, f_endValue, f_sayCount, f_stepCount, f_tooLong, f_latestResult, f_latestKind, a_tokenKind, a_tokenValue, a_tokenSize, a_hasBody, a_expected, a_entryToken, a_entryPhase, a_keptEnding, a_keptNote, a_keptValue, a_variables, a_output) (nI l) (nI 2) := by
  refine ⟨vp_in_nI hl (by decide), nm_r (e' := nI j) (by rw [nI_clamp (by omega), eT]) (br_f (by decide) (br_t rfl ⟨vp_in_nI hj (by decide), ?_⟩))⟩
  rw [nI_clamp (n := j) (by omega)]
  exact br_t rfl (br_t rfl (br_t rfl h))
theorem xw_2out {j : Nat} (hl : l < 480) (hj : j < 200) (eT : a_entryToken l = nI j) (h0 : ¬ f_ending = 0) (hn : f_ending = 1 ∨ f_ending = 2 → ¬ f_endNote = a_tokenValue j) (h : post (-1) (f_expectedCount, f_draftLength, f_latestPlace, f_entryCount, f_working, f_ending, f_endNote, f_endValue, f_sayCount, f_stepCount, f_tooLong, f_latestResult, f_latestKind, a_tokenKind, a_tokenValue, a_tokenSize, a_hasBody, a_expected, a_entryToken, a_entryPhase, a_keptEnding, a_keptNote, a_keptValue, a_variables, a_output)) : wpX_nextOfWhile post (f_expectedCount, f_draftLength, f_latestPlace, f_entryCount, f_working, f_ending, f_endNote, f_endValue, f_sayCount, f_stepCount, f_tooLong, f_latestResult, f_latestKind, a_tokenKind, a_tokenValue, a_tokenSize, a_hasBody, a_expected, a_entryToken, a_entryPhase, a_keptEnding, a_keptNote, a_keptValue, a_variables, a_output) (nI l) (nI 2) := by
  refine ⟨vp_in_nI hl (by decide), nm_r (e' := nI j) (by rw [nI_clamp (by omega), eT]) (br_f (by decide) (br_t rfl ⟨vp_in_nI hj (by decide), ?_⟩))⟩
  rw [nI_clamp (n := j) (by omega)]
  have g : wX_goesOn_23 (fun r_35 u => match u with | (f_expectedCount, f_draftLength, f_latestPlace, f_entryCount, f_working, f_ending, f_endNote, f_endValue, f_sayCount, f_stepCount, f_tooLong, f_latestResult, f_latestKind, a_tokenKind, a_tokenValue, a_tokenSize, a_hasBody, a_expected, a_entryToken, a_entryPhase, a_keptEnding, a_keptNote, a_keptValue, a_variables, a_output) => (r_35 = 0 → post (-1) (f_expectedCount, f_draftLength, f_latestPlace, f_entryCount, f_working, f_ending, f_endNote, f_endValue, f_sayCount, f_stepCount, f_tooLong, f_latestResult, f_latestKind, a_tokenKind, a_tokenValue, a_tokenSize, a_hasBody, a_expected, a_entryToken, a_entryPhase, a_keptEnding, a_keptNote, a_keptValue, a_variables, a_output)) ∧ (¬ r_35 = 0 → wX_nextOfWhile_57 post (nI l) (nI j) f_expectedCount f_draftLength f_latestPlace f_entryCount f_working f_ending f_endNote f_endValue f_sayCount f_stepCount f_tooLong f_latestResult f_latestKind a_tokenKind a_tokenValue a_tokenSize a_hasBody a_expected a_entryToken a_entryPhase a_keptEnding a_keptNote a_keptValue a_variables a_output)) (a_tokenValue j) f_expectedCount f_draftLength f_latestPlace f_entryCount f_working f_ending f_endNote f_endValue f_sayCount f_stepCount f_tooLong f_latestResult f_latestKind a_tokenKind a_tokenValue a_tokenSize a_hasBody a_expected a_entryToken a_entryPhase a_keptEnding a_keptNote a_keptValue a_variables a_output := br_f h0 (br_c (fun z => br_f (hn (Or.inr z)) (br_t rfl h)) (fun _ => br_t rfl h))
  exact br_c (fun z => br_f (hn (Or.inl z)) g) (fun _ => g)
theorem xc_0 {j : Nat} (hl : l < 480) (eT : a_entryToken l = nI j) (h : post (nI (j + 1)) (f_expectedCount, f_draftLength, f_latestPlace, f_entryCount, f_working, f_ending, f_endNote, f_endValue, f_sayCount, f_stepCount, f_tooLong, f_latestResult, f_latestKind, a_tokenKind, a_tokenValue, a_tokenSize, a_hasBody, a_expected, a_entryToken, a_entryPhase, a_keptEnding, a_keptNote, a_keptValue, a_variables, a_output)) : wpX_nextOfCall post (f_expectedCount, f_draftLength, f_latestPlace, f_entryCount, f_working, f_ending, f_endNote, f_endValue, f_sayCount, f_stepCount, f_tooLong, f_latestResult, f_latestKind, a_tokenKind, a_tokenValue, a_tokenSize, a_hasBody, a_expected, a_entryToken, a_entryPhase, a_keptEnding, a_keptNote, a_keptValue, a_variables, a_output) (nI l) (nI 0) :=
  ⟨vp_in_nI hl (by decide), nm_r (e' := nI j) (by rw [nI_clamp (by omega), eT]) (br_t rfl (by rw [nI_1]; exact h))⟩
theorem xc_1stop (hl : l < 480) (he : ¬ f_ending = 0) (h : post (-1) (f_expectedCount, f_draftLength, f_latestPlace, f_entryCount, f_working, f_ending, f_endNote, f_endValue, f_sayCount, f_stepCount, f_tooLong, f_latestResult, f_latestKind, a_tokenKind, a_tokenValue, a_tokenSize, a_hasBody, a_expected, a_entryToken, a_entryPhase, a_keptEnding, a_keptNote, a_keptValue, a_variables, a_output)) : wpX_nextOfCall post (f_expectedCount, f_draftLength, f_latestPlace, f_entryCount, f_working, f_ending, f_endNote, f_endValue, f_sayCount, f_stepCount, f_tooLong, f_latestResult, f_latestKind, a_tokenKind, a_tokenValue, a_tokenSize, a_hasBody, a_expected, a_entryToken, a_entryPhase, a_keptEnding, a_keptNote, a_keptValue, a_variables, a_output) (nI l) (nI 1) :=
  ⟨vp_in_nI hl (by decide), nm_e (br_f (by decide) (br_t rfl (br_f he h)))⟩
theorem xc_1go {j f : Nat} (hl : l < 480) (hj : j < 200) (eT : a_entryToken l = nI j) (hv : a_tokenValue j = nI f) (h : wpX_beginFunction post (f_expectedCount, f_draftLength, f_latestPlace, f_entryCount, f_working, 0, f_endNote, f_endValue, f_sayCount, f_stepCount, f_tooLong, f_latestResult, f_latestKind, a_tokenKind, a_tokenValue, a_tokenSize, a_hasBody, a_expected, a_entryToken, a_entryPhase, a_keptEnding, a_keptNote, a_keptValue, a_variables, a_output) (nI f) f_endValue) : wpX_nextOfCall post (f_expectedCount, f_draftLength, f_latestPlace, f_entryCount, f_working, 0, f_endNote, f_endValue, f_sayCount, f_stepCount, f_tooLong, f_latestResult, f_latestKind, a_tokenKind, a_tokenValue, a_tokenSize, a_hasBody, a_expected, a_entryToken, a_entryPhase, a_keptEnding, a_keptNote, a_keptValue, a_variables, a_output) (nI l) (nI 1) := by
  refine ⟨vp_in_nI hl (by decide), nm_r (e' := nI j) (by rw [nI_clamp (by omega), eT]) (br_f (by decide) (br_t rfl (br_t rfl ⟨vp_in_nI hj (by decide), ?_⟩)))⟩
  rw [nI_clamp (n := j) (by omega), hv]
  exact h
theorem xc_2 {w : Nat} (hl : l < 480) (h0 : f_ending = 0 → post (-1) (f_expectedCount, f_draftLength, f_latestPlace, f_entryCount, nI w, 0, f_endNote, 0, f_sayCount, f_stepCount, f_tooLong, f_latestResult, f_latestKind, a_tokenKind, a_tokenValue, a_tokenSize, a_hasBody, a_expected, a_entryToken, a_entryPhase, a_keptEnding, a_keptNote, a_keptValue, a_variables, a_output)) (h3 : f_ending = 3 → post (-1) (f_expectedCount, f_draftLength, f_latestPlace, f_entryCount, nI w, 0, f_endNote, f_endValue, f_sayCount, f_stepCount, f_tooLong, f_latestResult, f_latestKind, a_tokenKind, a_tokenValue, a_tokenSize, a_hasBody, a_expected, a_entryToken, a_entryPhase, a_keptEnding, a_keptNote, a_keptValue, a_variables, a_output)) (h4 : ¬ f_ending = 0 → ¬ f_ending = 3 → post (-1) (f_expectedCount, f_draftLength, f_latestPlace, f_entryCount, nI w, f_ending, f_endNote, f_endValue, f_sayCount, f_stepCount, f_tooLong, f_latestResult, f_latestKind, a_tokenKind, a_tokenValue, a_tokenSize, a_hasBody, a_expected, a_entryToken, a_entryPhase, a_keptEnding, a_keptNote, a_keptValue, a_variables, a_output)) : wpX_nextOfCall post (f_expectedCount, f_draftLength, f_latestPlace, f_entryCount, nI (w + 1), f_ending, f_endNote, f_endValue, f_sayCount, f_stepCount, f_tooLong, f_latestResult, f_latestKind, a_tokenKind, a_tokenValue, a_tokenSize, a_hasBody, a_expected, a_entryToken, a_entryPhase, a_keptEnding, a_keptNote, a_keptValue, a_variables, a_output) (nI l) (nI 2) :=
  ⟨vp_in_nI hl (by decide), nm_e (br_f (by decide) (br_f (by decide) (nm_r (nI_pred w) (br_c (fun z => by have := h0 z; subst z; exact this) (fun z => br_c (fun z3 => h3 z3) (fun z3 => h4 z z3))))))⟩
/-- a function begins, or can't -/
theorem xb_none {f : Nat} {a : Int32} (hf : f < 4) (hb : a_hasBody f = 0) (h : post (-1) (f_expectedCount, f_draftLength, f_latestPlace, f_entryCount, f_working, 4, 1, nI f, f_sayCount, f_stepCount, f_tooLong, f_latestResult, f_latestKind, a_tokenKind, a_tokenValue, a_tokenSize, a_hasBody, a_expected, a_entryToken, a_entryPhase, a_keptEnding, a_keptNote, a_keptValue, a_variables, a_output)) : wpX_beginFunction post (f_expectedCount, f_draftLength, f_latestPlace, f_entryCount, f_working, f_ending, f_endNote, f_endValue, f_sayCount, f_stepCount, f_tooLong, f_latestResult, f_latestKind, a_tokenKind, a_tokenValue, a_tokenSize, a_hasBody, a_expected, a_entryToken, a_entryPhase, a_keptEnding, a_keptNote, a_keptValue, a_variables, a_output) (nI f) a := by
  refine ⟨vp_in_nI hf (by decide), br_t ?_ h⟩
  rw [nI_clamp (by omega)]
  exact hb
theorem xb_over {f : Nat} {a : Int32} (hf : f < 4) (hb : a_hasBody f = 1) (h : post (-1) (f_expectedCount, f_draftLength, f_latestPlace, f_entryCount, f_working, f_ending, f_endNote, f_endValue, f_sayCount, nI 300, 1, f_latestResult, f_latestKind, a_tokenKind, a_tokenValue, a_tokenSize, a_hasBody, a_expected, a_entryToken, a_entryPhase, a_keptEnding, a_keptNote, a_keptValue, a_variables, a_output)) : wpX_beginFunction post (f_expectedCount, f_draftLength, f_latestPlace, f_entryCount, f_working, f_ending, f_endNote, f_endValue, f_sayCount, nI 300, f_tooLong, f_latestResult, f_latestKind, a_tokenKind, a_tokenValue, a_tokenSize, a_hasBody, a_expected, a_entryToken, a_entryPhase, a_keptEnding, a_keptNote, a_keptValue, a_variables, a_output) (nI f) a := by
  refine ⟨vp_in_nI hf (by decide), br_f ?_ (br_f (by decide) (br_t rfl h))⟩
  rw [nI_clamp (by omega), hb]
  decide
theorem xb_deep {f q : Nat} {a : Int32} (hf : f < 4) (hb : a_hasBody f = 1) (hq : q < 300) (h : post (-1) (f_expectedCount, f_draftLength, f_latestPlace, f_entryCount, nI 12, 4, 2, nI f, f_sayCount, nI (q + 1), f_tooLong, f_latestResult, f_latestKind, a_tokenKind, a_tokenValue, a_tokenSize, a_hasBody, a_expected, a_entryToken, a_entryPhase, a_keptEnding, a_keptNote, a_keptValue, a_variables, a_output)) : wpX_beginFunction post (f_expectedCount, f_draftLength, f_latestPlace, f_entryCount, nI 12, f_ending, f_endNote, f_endValue, f_sayCount, nI q, f_tooLong, f_latestResult, f_latestKind, a_tokenKind, a_tokenValue, a_tokenSize, a_hasBody, a_expected, a_entryToken, a_entryPhase, a_keptEnding, a_keptNote, a_keptValue, a_variables, a_output) (nI f) a := by
  refine ⟨vp_in_nI hf (by decide), br_f ?_ (br_t (nI_lt (b := 300) hq (by decide)) (nm_r (nI_1 q) (br_f (by decide) (br_f (by decide) h))))⟩
  rw [nI_clamp (by omega), hb]
  decide
theorem xb_go {f q w : Nat} {a : Int32} (hf : f < 4) (hb : a_hasBody f = 1) (hq : q < 300) (hw : w < 12) (h : post (nI (40 * f)) (f_expectedCount, f_draftLength, f_latestPlace, f_entryCount, nI (w + 1), f_ending, f_endNote, f_endValue, f_sayCount, nI (q + 1), f_tooLong, f_latestResult, f_latestKind, a_tokenKind, a_tokenValue, a_tokenSize, a_hasBody, a_expected, a_entryToken, a_entryPhase, a_keptEnding, a_keptNote, a_keptValue, vset a_variables w a, a_output)) : wpX_beginFunction post (f_expectedCount, f_draftLength, f_latestPlace, f_entryCount, nI w, f_ending, f_endNote, f_endValue, f_sayCount, nI q, f_tooLong, f_latestResult, f_latestKind, a_tokenKind, a_tokenValue, a_tokenSize, a_hasBody, a_expected, a_entryToken, a_entryPhase, a_keptEnding, a_keptNote, a_keptValue, a_variables, a_output) (nI f) a := by
  have ix : ∀ m, (nI (w + 1) - 1) * 6 + nI m = nI (6 * w + m) := fun m => (vx_ix (w := w + 1) (by omega)).trans rfl
  have Lp : ∀ d m, m + d = 6 → wX_beginFunction_57 post (nI f) a (d + 1) (nI m) f_expectedCount f_draftLength f_latestPlace f_entryCount (nI (w + 1)) f_ending f_endNote f_endValue f_sayCount (nI (q + 1)) f_tooLong f_latestResult f_latestKind a_tokenKind a_tokenValue a_tokenSize a_hasBody a_expected a_entryToken a_entryPhase a_keptEnding a_keptNote a_keptValue (vz a_variables w m) a_output := by
    intro d
    induction d with
    | zero =>
      intro m hm
      have : m = 6 := by omega
      subst this
      refine br_t (by decide) ⟨?_, nm_r (e' := vset a_variables w a) ?_ ?_⟩
      · rw [show (0 : Int32) = nI 0 from rfl, ix 0]
        exact vp_in_nI (by omega) (by decide)
      · rw [show (0 : Int32) = nI 0 from rfl, ix 0, nI_clamp (by omega)]
        rfl
      · rw [show nI f * 40 = nI (40 * f) from (pk_mul f 40).trans (congrArg nI (by omega))]
        exact h
    | succ d ih =>
      intro m hm
      refine br_f (nI_ge (b := 6) (by omega) (by decide)) ⟨?_, nm_r (e' := vz a_variables w (m + 1)) ?_ (nm_r (nI_1 m) (ih (m + 1) (by omega)))⟩
      · rw [ix m]
        exact vp_in_nI (by omega) (by decide)
      · rw [ix m, nI_clamp (by omega)]
        exact vz_s
  refine ⟨vp_in_nI hf (by decide), br_f ?_ (br_t (nI_lt (b := 300) hq (by decide)) (nm_r (nI_1 q) (br_f (by decide) (br_t (nI_lt (b := 12) hw (by decide)) (nm_r (nI_1 w) ⟨7, ?_⟩)))))⟩
  · rw [nI_clamp (by omega), hb]
    decide
  · have := Lp 6 0 (by omega)
    rw [vz_0] at this
    exact this
theorem xt_0 {j : Nat} (hl : l < 480) (eT : a_entryToken l = nI j) (h : post (nI (j + 1)) (f_expectedCount, f_draftLength, f_latestPlace, f_entryCount, f_working, f_ending, f_endNote, f_endValue, f_sayCount, f_stepCount, f_tooLong, f_latestResult, f_latestKind, a_tokenKind, a_tokenValue, a_tokenSize, a_hasBody, a_expected, a_entryToken, a_entryPhase, a_keptEnding, a_keptNote, a_keptValue, a_variables, a_output)) : wpX_nextOfTry post (f_expectedCount, f_draftLength, f_latestPlace, f_entryCount, f_working, f_ending, f_endNote, f_endValue, f_sayCount, f_stepCount, f_tooLong, f_latestResult, f_latestKind, a_tokenKind, a_tokenValue, a_tokenSize, a_hasBody, a_expected, a_entryToken, a_entryPhase, a_keptEnding, a_keptNote, a_keptValue, a_variables, a_output) (nI l) (nI 0) :=
  ⟨vp_in_nI hl (by decide), nm_r (e' := nI j) (by rw [nI_clamp (by omega), eT]) (br_t rfl (by rw [nI_1]; exact h))⟩
theorem xt_3back (hl : l < 480) (h : post (-1) (f_expectedCount, f_draftLength, f_latestPlace, f_entryCount, f_working, a_keptEnding l, a_keptNote l, a_keptValue l, f_sayCount, f_stepCount, f_tooLong, f_latestResult, f_latestKind, a_tokenKind, a_tokenValue, a_tokenSize, a_hasBody, a_expected, a_entryToken, a_entryPhase, a_keptEnding, a_keptNote, a_keptValue, a_variables, a_output)) : wpX_nextOfTry post (f_expectedCount, f_draftLength, f_latestPlace, f_entryCount, f_working, 0, f_endNote, f_endValue, f_sayCount, f_stepCount, f_tooLong, f_latestResult, f_latestKind, a_tokenKind, a_tokenValue, a_tokenSize, a_hasBody, a_expected, a_entryToken, a_entryPhase, a_keptEnding, a_keptNote, a_keptValue, a_variables, a_output) (nI l) (nI 3) := by
  have hv := vp_in_nI hl (by decide)
  refine ⟨hv, nm_e (br_f (by decide) (br_t rfl (br_t rfl ⟨hv, hv, hv, ?_⟩)))⟩
  rw [nI_clamp (n := l) (by omega)]
  exact h
theorem xt_3out (hl : l < 480) (he : ¬ f_ending = 0) (h : post (-1) (f_expectedCount, f_draftLength, f_latestPlace, f_entryCount, f_working, f_ending, f_endNote, f_endValue, f_sayCount, f_stepCount, f_tooLong, f_latestResult, f_latestKind, a_tokenKind, a_tokenValue, a_tokenSize, a_hasBody, a_expected, a_entryToken, a_entryPhase, a_keptEnding, a_keptNote, a_keptValue, a_variables, a_output)) : wpX_nextOfTry post (f_expectedCount, f_draftLength, f_latestPlace, f_entryCount, f_working, f_ending, f_endNote, f_endValue, f_sayCount, f_stepCount, f_tooLong, f_latestResult, f_latestKind, a_tokenKind, a_tokenValue, a_tokenSize, a_hasBody, a_expected, a_entryToken, a_entryPhase, a_keptEnding, a_keptNote, a_keptValue, a_variables, a_output) (nI l) (nI 3) :=
  ⟨vp_in_nI hl (by decide), nm_e (br_f (by decide) (br_t rfl (br_f he h)))⟩
theorem xt_81n {j : Nat} (hj : j < 200) (hk : tk_ok 17 (a_tokenValue j)) (hf : tk_fn (a_tokenValue j) = 0) (h : post (-1) (f_expectedCount, f_draftLength, f_latestPlace, f_entryCount, f_working, f_ending, f_endNote, f_endValue, f_sayCount, f_stepCount, f_tooLong, f_latestResult, f_latestKind, a_tokenKind, a_tokenValue, a_tokenSize, a_hasBody, a_expected, a_entryToken, a_entryPhase, a_keptEnding, a_keptNote, a_keptValue, a_variables, a_output)) : wX_nextOfTry_81 post (nI l) (nI j) f_expectedCount f_draftLength f_latestPlace f_entryCount f_working f_ending f_endNote f_endValue f_sayCount f_stepCount f_tooLong f_latestResult f_latestKind a_tokenKind a_tokenValue a_tokenSize a_hasBody a_expected a_entryToken a_entryPhase a_keptEnding a_keptNote a_keptValue a_variables a_output := by
  refine ⟨vp_in_nI hj (by decide), ?_⟩
  rw [nI_clamp (n := j) (by omega)]
  refine qx_finT hk (br_t (by rw [hf]; rfl) h)
theorem xt_81f (P : pg_T a_tokenKind a_tokenValue a_tokenSize U B LN) (hr : r < 4) (hi : i < LN r) (hk : a_tokenKind (40 * r + i) = 17) (hl : l < 480) (hf : tk_fn (a_tokenValue (40 * r + i)) = 1) (h : post (nI (40 * r + tr_ca (ro a_tokenSize r) i (1 + tk_cn (a_tokenValue (40 * r + i))))) (f_expectedCount, f_draftLength, f_latestPlace, f_entryCount, f_working, f_ending, f_endNote, f_endValue, f_sayCount, f_stepCount, f_tooLong, f_latestResult, f_latestKind, a_tokenKind, a_tokenValue, a_tokenSize, a_hasBody, a_expected, a_entryToken, upd a_entryPhase l 3, upd a_keptEnding l f_ending, upd a_keptNote l f_endNote, upd a_keptValue l f_endValue, a_variables, a_output)) : wX_nextOfTry_81 post (nI l) (nI (40 * r + i)) f_expectedCount f_draftLength f_latestPlace f_entryCount f_working f_ending f_endNote f_endValue f_sayCount f_stepCount f_tooLong f_latestResult f_latestKind a_tokenKind a_tokenValue a_tokenSize a_hasBody a_expected a_entryToken a_entryPhase a_keptEnding a_keptNote a_keptValue a_variables a_output := by
  obtain ⟨hok, hj, hi40⟩ := pg_tok P hr hi
  have hv := vp_in_nI hl (by decide)
  have hn : tk_np (a_tokenKind (40 * r + i)) (a_tokenValue (40 * r + i)) = 1 + tk_cn (a_tokenValue (40 * r + i)) + 1 := by
    rw [hk]
    unfold tk_np
    rw [if_pos rfl, hf]
  have h4 := tk_np_le hok
  refine ⟨vp_in_nI (by omega) (by decide), ?_⟩
  rw [nI_clamp (n := 40 * r + i) (by omega)]
  refine qx_finT (hk ▸ hok) (br_f (by rw [hf]; decide) ⟨hv, nm_r (by rw [nI_clamp (by omega)]) ⟨hv, nm_r (by rw [nI_clamp (by omega)]) ⟨hv, nm_r (by rw [nI_clamp (by omega)]) ⟨hv, nm_r (e' := upd a_entryPhase l 3) (by rw [nI_clamp (by omega)]) (qx_parts (by omega) hok (nm_r (e' := nI (1 + tk_cn (a_tokenValue (40 * r + i)))) (by rw [hn]; exact nI_pred _) (qx_partAt (tr_pa P hr hi (by omega)) (by omega) h)))⟩⟩⟩⟩)
theorem xt_1 {j : Nat} (hl : l < 480) (eT : a_entryToken l = nI j) (he : ¬ f_ending = 4) (h : wX_nextOfTry_81 post (nI l) (nI j) f_expectedCount f_draftLength f_latestPlace f_entryCount f_working f_ending f_endNote f_endValue f_sayCount f_stepCount f_tooLong f_latestResult f_latestKind a_tokenKind a_tokenValue a_tokenSize a_hasBody a_expected a_entryToken a_entryPhase a_keptEnding a_keptNote a_keptValue a_variables a_output) : wpX_nextOfTry post (f_expectedCount, f_draftLength, f_latestPlace, f_entryCount, f_working, f_ending, f_endNote, f_endValue, f_sayCount, f_stepCount, f_tooLong, f_latestResult, f_latestKind, a_tokenKind, a_tokenValue, a_tokenSize, a_hasBody, a_expected, a_entryToken, a_entryPhase, a_keptEnding, a_keptNote, a_keptValue, a_variables, a_output) (nI l) (nI 1) :=
  ⟨vp_in_nI hl (by decide), nm_r (e' := nI j) (by rw [nI_clamp (by omega), eT]) (br_f (by decide) (br_f (by decide) (br_t rfl (br_f he h))))⟩
theorem xt_2 {j : Nat} (hl : l < 480) (eT : a_entryToken l = nI j) (h : wX_nextOfTry_81 post (nI l) (nI j) f_expectedCount f_draftLength f_latestPlace f_entryCount f_working f_ending f_endNote f_endValue f_sayCount f_stepCount f_tooLong f_latestResult f_latestKind a_tokenKind a_tokenValue a_tokenSize a_hasBody a_expected a_entryToken a_entryPhase a_keptEnding a_keptNote a_keptValue a_variables a_output) : wpX_nextOfTry post (f_expectedCount, f_draftLength, f_latestPlace, f_entryCount, f_working, f_ending, f_endNote, f_endValue, f_sayCount, f_stepCount, f_tooLong, f_latestResult, f_latestKind, a_tokenKind, a_tokenValue, a_tokenSize, a_hasBody, a_expected, a_entryToken, a_entryPhase, a_keptEnding, a_keptNote, a_keptValue, a_variables, a_output) (nI l) (nI 2) :=
  ⟨vp_in_nI hl (by decide), nm_r (e' := nI j) (by rw [nI_clamp (by omega), eT]) (br_f (by decide) (br_f (by decide) (br_f (by decide) h)))⟩
/-- which catch takes the exception -/
theorem xt_for {post : Int32 → Prop} (P : pg_T a_tokenKind a_tokenValue a_tokenSize U B LN) (hr : r < 4) (hi : i < LN r) (hk : a_tokenKind (40 * r + i) = 17) (h1 : ∀ c, 1 ≤ c → c ≤ tk_cn (a_tokenValue (40 * r + i)) → ct_m a_tokenValue a_tokenSize r i f_endNote c → (∀ b, 1 ≤ b → b < c → ¬ ct_m a_tokenValue a_tokenSize r i f_endNote b) → post (nI (40 * r + tr_ca (ro a_tokenSize r) i c))) (h0 : (∀ b, 1 ≤ b → b ≤ tk_cn (a_tokenValue (40 * r + i)) → ¬ ct_m a_tokenValue a_tokenSize r i f_endNote b) → post (-1)) : wpX_catchFor post (f_expectedCount, f_draftLength, f_latestPlace, f_entryCount, f_working, f_ending, f_endNote, f_endValue, f_sayCount, f_stepCount, f_tooLong, f_latestResult, f_latestKind, a_tokenKind, a_tokenValue, a_tokenSize, a_hasBody, a_expected, a_entryToken, a_entryPhase, a_keptEnding, a_keptNote, a_keptValue, a_variables, a_output) (nI (40 * r + i)) := by
  obtain ⟨hok, hj, hi40⟩ := pg_tok P hr hi
  have hc2 : tk_cn (a_tokenValue (40 * r + i)) ≤ 2 := by
    unfold tk_cn
    repeat' split
    all_goals omega
  have Lp : ∀ d c, 1 ≤ c → c + d = tk_cn (a_tokenValue (40 * r + i)) + 1 → (∀ b, 1 ≤ b → b < c → ¬ ct_m a_tokenValue a_tokenSize r i f_endNote b) → wX_catchFor_15 post (nI (40 * r + i)) (nI (tk_cn (a_tokenValue (40 * r + i)))) f_expectedCount f_draftLength f_latestPlace f_entryCount f_working f_ending f_endNote f_endValue f_sayCount f_stepCount f_tooLong f_latestResult f_latestKind a_tokenKind a_tokenValue a_tokenSize a_hasBody a_expected a_entryToken a_entryPhase a_keptEnding a_keptNote a_keptValue a_variables a_output (d + 1) (nI c) := by
    intro d
    induction d with
    | zero =>
      intro c hc hd hn
      exact br_t (nI_lt (by omega) (by omega)) (h0 (fun b b1 b2 => hn b b1 (by omega)))
    | succ d ih =>
      intro c hc hd hn
      obtain ⟨t1, t2, t3, t4, t5, t6, t7, t8, t9, t10⟩ := tr_catch P hr hi hk hc (by omega)
      have hL := (P r hr (by omega)).2.1
      refine br_f (nI_nlt (by omega) (by omega)) (qx_partAt (tr_pa P hr hi (Nat.le_of_lt t1)) (by omega) ⟨vp_in_nI (by show 40 * r + tr_ca (ro a_tokenSize r) i c < 200; omega) (by decide), ?_⟩)
      rw [nI_clamp (n := 40 * r + tr_ca (fun i => a_tokenSize (40 * r + i)) i c) (by show 40 * r + tr_ca (ro a_tokenSize r) i c < _; omega)]
      show wpX_caughtKind _ _ (a_tokenValue (40 * r + tr_ca (ro a_tokenSize r) i c))
      refine br_c (fun z => h1 c hc (by omega) (Or.inl z) hn) (fun z => br_c (fun z2 => h1 c hc (by omega) (Or.inr z2) hn) (fun z2 => nm_r (nI_1 c) (ih (c + 1) (by omega) (by omega) (fun b b1 b2 => ?_))))
      by_cases e : b = c
      · subst e
        exact fun q => q.elim z z2
      · exact hn b b1 (by omega)
  refine ⟨vp_in_nI (by omega) (by decide), ?_⟩
  rw [nI_clamp (n := 40 * r + i) (by omega)]
  exact qx_catT (hk ▸ hok) ⟨tk_cn (a_tokenValue (40 * r + i)) + 1, Lp _ 1 (by omega) (by omega) (fun b b1 b2 => by omega)⟩
theorem xt_hand {w : Nat} (P : pg_T a_tokenKind a_tokenValue a_tokenSize U B LN) (hr : r < 4) (hi : i < LN r) (hk : a_tokenKind (40 * r + i) = 17) (hl : l < 480) (eT : a_entryToken l = nI (40 * r + i)) (w1 : 1 ≤ w) (w12 : w ≤ 12) (h1 : ∀ c m, 1 ≤ c → c ≤ tk_cn (a_tokenValue (40 * r + i)) → ct_m a_tokenValue a_tokenSize r i f_endNote c → (∀ b, 1 ≤ b → b < c → ¬ ct_m a_tokenValue a_tokenSize r i f_endNote b) → a_tokenValue (40 * r + tr_ca (ro a_tokenSize r) i c) = nI m → m < 48 → post (nI (40 * r + (tr_ca (ro a_tokenSize r) i c + 1))) (f_expectedCount, f_draftLength, f_latestPlace, f_entryCount, nI w, 4, f_endNote, f_endValue, f_sayCount, f_stepCount, f_tooLong, f_latestResult, f_latestKind, a_tokenKind, a_tokenValue, a_tokenSize, a_hasBody, a_expected, a_entryToken, a_entryPhase, a_keptEnding, a_keptNote, a_keptValue, upd a_variables (6 * (w - 1) + m / 8) f_endValue, a_output)) (h0 : (∀ b, 1 ≤ b → b ≤ tk_cn (a_tokenValue (40 * r + i)) → ¬ ct_m a_tokenValue a_tokenSize r i f_endNote b) → wX_nextOfTry_81 post (nI l) (nI (40 * r + i)) f_expectedCount f_draftLength f_latestPlace f_entryCount (nI w) 4 f_endNote f_endValue f_sayCount f_stepCount f_tooLong f_latestResult f_latestKind a_tokenKind a_tokenValue a_tokenSize a_hasBody a_expected a_entryToken a_entryPhase a_keptEnding a_keptNote a_keptValue a_variables a_output) : wpX_nextOfTry post (f_expectedCount, f_draftLength, f_latestPlace, f_entryCount, nI w, 4, f_endNote, f_endValue, f_sayCount, f_stepCount, f_tooLong, f_latestResult, f_latestKind, a_tokenKind, a_tokenValue, a_tokenSize, a_hasBody, a_expected, a_entryToken, a_entryPhase, a_keptEnding, a_keptNote, a_keptValue, a_variables, a_output) (nI l) (nI 1) := by
  refine ⟨vp_in_nI hl (by decide), nm_r (e' := nI (40 * r + i)) (by rw [nI_clamp (by omega), eT]) (br_f (by decide) (br_f (by decide) (br_t rfl (br_t rfl (xt_for P hr hi hk (fun c c1 c2 cm cf => ?_) (fun hn => br_t rfl (h0 hn)))))))⟩
  obtain ⟨t1, t2, t3, t4, t5, t6, t7, t8, t9, t10⟩ := tr_catch P hr hi hk c1 c2
  have hL := (P r hr (by omega)).2.1
  have hok := ((P r hr (by omega)).2.2.2 _ t2).1
  have hok' : tk_ok (a_tokenKind (40 * r + tr_ca (ro a_tokenSize r) i c)) (a_tokenValue (40 * r + tr_ca (ro a_tokenSize r) i c)) := hok
  rw [t3] at hok'
  obtain ⟨m, hm, em, _⟩ := tk_cat hok'
  have g := h1 c m c1 c2 cm cf em hm
  refine br_f (qb_ne_m1 (by omega)) ⟨vp_in_nI (by omega) (by decide), ?_⟩
  rw [nI_clamp (n := 40 * r + tr_ca (ro a_tokenSize r) i c) (by omega), em]
  have es : nI m >>> ((3 : Int32) &&& 31) = nI (m / 8) := pk_shrN (by omega) _ 3 (by decide)
  unfold wpX_caughtVariable
  dsimp only
  rw [es]
  unfold wpX_setVariable
  dsimp only
  refine ⟨?_, nm_r (e' := upd a_variables (6 * (w - 1) + m / 8) f_endValue) ?_ ?_⟩
  · rw [vx_ix w1]
    exact vp_in_nI (by omega) (by decide)
  · rw [vx_ix w1, nI_clamp (by omega)]
  · rw [nI_1]
    exact g
end
end
section
/-- Y's entries stand for the frames -/
def sy_S (K Z TK HT PH TG HW KS WR VL BG : Nat → Int32) : List Fr → Prop
  | [] => True
  | (r, i, p, y, c, a, e, n, t) :: st => sy_S K Z TK HT PH TG HW KS WR VL BG st ∧ TK (st_y st) = nI (40 * r + i) ∧ HT (st_y st) = nI (st_h K st) ∧ PH (st_y st) = nI y ∧ (c ≠ 0 → TK (st_y st + 1) = nI (40 * r + tr_ca (ro Z r) i c) ∧ HT (st_y st + 1) = nI (st_h K st) ∧ PH (st_y st + 1) = 1) ∧ (fr_b (K (40 * r + i)) p = 1 → VL (st_h K st) = a) ∧ (p = 3 → HW (st_y st) = e ∧ ((e = 1 ∨ e = 2) → TG (st_y st) = nI (40 * r + t)) ∧ ((e = 3 ∨ e = 4) → WR (st_y st) = a) ∧ (e = 4 → KS (st_y st) = n)) ∧ (K (40 * r + i) = 8 → p = 2 → BG (st_y st) = 1)
theorem sy_keep {K Z TK HT PH TG HW KS WR VL BG TK' HT' PH' TG' HW' KS' WR' VL' BG' : Nat → Int32} : ∀ st : List Fr, (∀ q, q < st_y st → TK' q = TK q) → (∀ q, q < st_y st → HT' q = HT q) → (∀ q, q < st_y st → PH' q = PH q) → (∀ q, q < st_y st → TG' q = TG q) → (∀ q, q < st_y st → HW' q = HW q) → (∀ q, q < st_y st → KS' q = KS q) → (∀ q, q < st_y st → WR' q = WR q) → (∀ q, q < st_h K st → VL' q = VL q) → (∀ q, q < st_y st → BG' q = BG q) → sy_S K Z TK HT PH TG HW KS WR VL BG st → sy_S K Z TK' HT' PH' TG' HW' KS' WR' VL' BG' st := by
  intro st
  induction st with
  | nil => intro _ _ _ _ _ _ _ _ _ _; trivial
  | cons f st ih =>
    obtain ⟨r, i, p, y, c, a, e, n, t⟩ := f
    intro h1 h2 h3 h4 h5 h6 h7 h8 h9 h
    obtain ⟨a0, a1, a2, a3, a4, a5, a6, a7⟩ := h
    have ey : st_y ((r, i, p, y, c, a, e, n, t) :: st) = st_y st + (if c = 0 then 1 else 2) := rfl
    have eh : st_h K ((r, i, p, y, c, a, e, n, t) :: st) = st_h K st + fr_b (K (40 * r + i)) p := rfl
    rw [ey] at h1 h2 h3 h4 h5 h6 h7 h9
    rw [eh] at h8
    have l1 : st_y st < st_y st + (if c = 0 then 1 else 2) := by split <;> omega
    refine ⟨ih (fun q hq => h1 q (by omega)) (fun q hq => h2 q (by omega)) (fun q hq => h3 q (by omega)) (fun q hq => h4 q (by omega)) (fun q hq => h5 q (by omega)) (fun q hq => h6 q (by omega)) (fun q hq => h7 q (by omega)) (fun q hq => h8 q (by omega)) (fun q hq => h9 q (by omega)) a0, (h1 _ l1).trans a1, (h2 _ l1).trans a2, (h3 _ l1).trans a3, fun z => ?_, fun z => (h8 _ (by omega)).trans (a5 z), fun z => ?_, fun z z2 => (h9 _ l1).trans (a7 z z2)⟩
    · obtain ⟨b1, b2, b3⟩ := a4 z
      have l2 : st_y st + 1 < st_y st + (if c = 0 then 1 else 2) := by rw [if_neg z]; omega
      exact ⟨(h1 _ l2).trans b1, (h2 _ l2).trans b2, (h3 _ l2).trans b3⟩
    · obtain ⟨b1, b2, b3, b4⟩ := a6 z
      exact ⟨(h5 _ l1).trans b1, fun z => (h4 _ l1).trans (b2 z), fun z => (h7 _ l1).trans (b3 z), fun z => (h6 _ l1).trans (b4 z)⟩
/-- how Y tells the ending that the topmost frame has to deal with -/
def sy_top (K VL : Nat → Int32) : List Fr → Int32 → Int32 → Int32 → Nat → Int32 → Int32 → Int32 → Int32 → Prop
  | [], e, n, v, _, _, _, kd, wo => ((e = 3 ∨ e = 4) → wo = v) ∧ (e = 4 → kd = n)
  | (r, i, p, y, c, a, e0, n0, t0) :: st, e, n, v, t, hd, tg, kd, wo => hd = nI (st_h K ((r, i, p, y, c, a, e0, n0, t0) :: st) + (if e = 0 ∧ 1 ≤ p ∧ fr_cs (K (40 * r + i)) p = 0 then 1 else 0)) ∧ (e = 0 → 1 ≤ p → fr_cs (K (40 * r + i)) p = 0 → VL (st_h K ((r, i, p, y, c, a, e0, n0, t0) :: st)) = v) ∧ ((e = 1 ∨ e = 2) → tg = nI (40 * r + t)) ∧ ((e = 3 ∨ e = 4) → wo = v) ∧ (e = 4 → kd = n)
/-- Y's loop from any state that stands for the frames -/
def YA (f_place f_result f_thrown : Int32) (K Z KY U LY VY B OP : Nat → Int32) (post : Int32 → SY → Prop) (m : Nat) (st : List Fr) (e n v : Int32) (t s q : Nat) (va ou : Nat → Int32) : Prop :=
  ∀ (hd tg kd wo : Int32) (TK HT PH TG HW KS WR VL BG : Nat → Int32), sy_S K Z TK HT PH TG HW KS WR VL BG st → sy_top K VL st e n v t hd tg kd wo → wY_run_51 post m f_place (nI (st_y st)) hd (nI (st_w K st)) e tg kd wo (nI q) (nI s) f_result f_thrown 0 KY U LY VY B OP TK HT TG PH HW KS WR VL va BG ou
def yc_K (post : Int32 → SY → Prop) (m : Nat) : SY → Prop := fun u => match u with
  | (f_place, f_top, f_held, f_depth, f_ended, f_endTarget, f_endKind, f_endWorth, f_steps, f_says, f_result, f_thrown, f_over, a_kind, a_up, a_length, a_value, a_below, a_open, a_token, a_height, a_target, a_phase, a_how, a_kinds, a_worth, a_values, a_variables, a_begun, a_output) => wY_run_51 post m f_place f_top f_held f_depth f_ended f_endTarget f_endKind f_endWorth f_steps f_says f_result f_thrown f_over a_kind a_up a_length a_value a_below a_open a_token a_height a_target a_phase a_how a_kinds a_worth a_values a_variables a_begun a_output
def YF (f_place f_result f_thrown : Int32) (K Z KY U LY VY B OP : Nat → Int32) (post : Int32 → SY → Prop) (r res th : Int32) (s q : Nat) (va ou : Nat → Int32) : Prop :=
  ∀ (f_top f_depth hd e tg kd wo f_over : Int32) (TK HT PH TG HW KS WR VL BG : Nat → Int32), post r (f_place, f_top, hd, f_depth, e, tg, kd, wo, nI q, nI s, res, th, f_over, KY, U, LY, VY, B, OP, TK, HT, TG, PH, HW, KS, WR, VL, va, BG, ou)
theorem st_h0 {K : Nat → Int32} {r j : Nat} {st : List Fr} : st_h K ((r, j, 0, 0, 0, 0, 0, 0, 0) :: st) = st_h K st := by
  show _ + _ = _
  unfold fr_b
  rw [if_neg (fun z => absurd z.2 (by decide))]
  rfl
section
variable {f_place f_top f_held f_depth f_ended f_endTarget f_endKind f_endWorth f_steps f_says f_result f_thrown f_over : Int32} {a_kind a_up a_length a_value a_below a_open a_token a_height a_target a_phase a_how a_kinds a_worth a_values a_variables a_begun a_output : Nat → Int32} {K Z KY U LY VY B OP TK HT PH TG HW KS WR VL BG va ou : Nat → Int32} {post : Int32 → SY → Prop} {m : Nat} {st : List Fr} {e n v hd tg kd wo : Int32} {t s q : Nat}
theorem ys_enter {T : Nat} (hT : T < 1000) (h : wpY_work (yc_K post m) (f_place, nI (T + 1), f_held, f_depth, f_ended, f_endTarget, f_endKind, f_endWorth, f_steps, f_says, f_result, f_thrown, 0, a_kind, a_up, a_length, a_value, a_below, a_open, a_token, a_height, a_target, a_phase, a_how, a_kinds, a_worth, a_values, a_variables, a_begun, a_output)) : wY_run_51 post (m + 1) f_place (nI (T + 1)) f_held f_depth f_ended f_endTarget f_endKind f_endWorth f_steps f_says f_result f_thrown 0 a_kind a_up a_length a_value a_below a_open a_token a_height a_target a_phase a_how a_kinds a_worth a_values a_variables a_begun a_output :=
  br_f (nI_nle (by omega) (by omega)) (br_t rfl h)
theorem yk_over (h : YF f_place f_result f_thrown K Z KY U LY VY B OP post 4 0 (-1) s q va ou) : yc_K post (m + 1) (f_place, f_top, hd, f_depth, e, tg, kd, wo, nI q, nI s, f_result, f_thrown, 1, KY, U, LY, VY, B, OP, TK, HT, TG, PH, HW, KS, WR, VL, va, BG, ou) := by
  have k : wY_run_72 post f_place f_top hd f_depth e tg kd wo (nI q) (nI s) f_result f_thrown 1 KY U LY VY B OP TK HT TG PH HW KS WR VL va BG ou := br_f (by decide) (br_t rfl (br_f (by decide) (br_f (by decide) (h _ _ _ _ _ _ _ _ _ _ _ _ _ _ _ _ _))))
  exact br_c (fun _ => k) (fun _ => br_f (by decide) k)
theorem ya_nil0 (h : YF f_place f_result f_thrown K Z KY U LY VY B OP post 0 0 (-1) s q va ou) : YA f_place f_result f_thrown K Z KY U LY VY B OP post 1 [] 0 n v t s q va ou := by
  intro hd tg kd wo TK HT PH TG HW KS WR VL BG _ _
  exact br_t (by decide) (br_t rfl (br_f (by decide) (br_t rfl (br_t rfl (br_t rfl (br_t rfl (br_t rfl (h _ _ _ _ _ _ _ _ _ _ _ _ _ _ _ _ _))))))))
theorem ya_nil3 (h : YF f_place f_result f_thrown K Z KY U LY VY B OP post 0 v (-1) s q va ou) : YA f_place f_result f_thrown K Z KY U LY VY B OP post 1 [] 3 n v t s q va ou := by
  intro hd tg kd wo TK HT PH TG HW KS WR VL BG _ hs
  have e1 : wo = v := hs.1 (Or.inl rfl)
  subst e1
  exact br_t (by decide) (br_t rfl (br_f (by decide) (br_t rfl (br_t rfl (br_f (by decide) (br_t rfl (br_t rfl (h _ _ _ _ _ _ _ _ _ _ _ _ _ _ _ _ _))))))))
theorem ya_nil4 (h : YF f_place f_result f_thrown K Z KY U LY VY B OP post 3 v n s q va ou) : YA f_place f_result f_thrown K Z KY U LY VY B OP post 1 [] 4 n v t s q va ou := by
  intro hd tg kd wo TK HT PH TG HW KS WR VL BG _ hs
  have e1 : wo = v := hs.1 (Or.inr rfl)
  have e2 : kd = n := hs.2 rfl
  subst e1 e2
  exact br_t (by decide) (br_t rfl (br_t rfl (br_f (by decide) (br_t rfl (br_f (by decide) (br_t rfl (br_f (by decide) (h _ _ _ _ _ _ _ _ _ _ _ _ _ _ _ _ _))))))))
/-- a part has begun -/
theorem yk_push {r j : Nat} (hS : sy_S K Z TK HT PH TG HW KS WR VL BG st) (h : YA f_place f_result f_thrown K Z KY U LY VY B OP post m ((r, j, 0, 0, 0, 0, 0, 0, 0) :: st) 0 n v t s q va ou) : yc_K post m (f_place, nI (st_y st + 1), nI (st_h K st), nI (st_w K st), 0, tg, kd, wo, nI q, nI s, f_result, f_thrown, 0, KY, U, LY, VY, B, OP, upd TK (st_y st) (nI (40 * r + j)), upd HT (st_y st) (nI (st_h K st)), TG, upd PH (st_y st) 0, HW, KS, WR, VL, va, BG, ou) := by
  have := h (nI (st_h K st)) tg kd wo (upd TK (st_y st) (nI (40 * r + j))) (upd HT (st_y st) (nI (st_h K st))) (upd PH (st_y st) 0) TG HW KS WR VL BG ⟨sy_keep st (fun q hq => pk_un (by omega)) (fun q hq => pk_un (by omega)) (fun q hq => pk_un (by omega)) (fun _ _ => rfl) (fun _ _ => rfl) (fun _ _ => rfl) (fun _ _ => rfl) (fun _ _ => rfl) (fun _ _ => rfl) hS, pk_us, pk_us, pk_us, fun z => (z rfl).elim, fun z => (fr_b0 _ z).elim, fun z => by omega, fun _ z => by omega⟩ ⟨by rw [st_h0, if_neg (fun z => by omega)]; rfl, fun _ z => by omega, fun z => absurd z (by decide), fun z => absurd z (by decide), fun z => absurd z (by decide)⟩
  rw [st_w0] at this
  exact this
/-- the topmost frame has gone -/
theorem yk_pop (hS : sy_S K Z TK HT PH TG HW KS WR VL BG st) (hT : sy_top K VL st e n v t hd tg kd wo) (h : YA f_place f_result f_thrown K Z KY U LY VY B OP post m st e n v t s q va ou) : yc_K post m (f_place, nI (st_y st), hd, nI (st_w K st), e, tg, kd, wo, nI q, nI s, f_result, f_thrown, 0, KY, U, LY, VY, B, OP, TK, HT, TG, PH, HW, KS, WR, VL, va, BG, ou) := h hd tg kd wo TK HT PH TG HW KS WR VL BG hS hT
end
section
variable {K V U VL : Nat → Int32} {LN : Nat → Nat}
theorem sy_pop_s {r i p y c : Nat} {a e0 n0 : Int32} {t0 : Nat} {st : List Fr} (W : st_wf K V U LN ((r, i, p, y, c, a, e0, n0, t0) :: st)) (hs : tk_so (K (40 * r + i)) = 1) {e n v : Int32} {t : Nat} {tg kd wo : Int32} (hT : st_top K V U st e n t) (h12 : (e = 1 ∨ e = 2) → tg = nI (40 * r + t)) (h34 : (e = 3 ∨ e = 4) → wo = v) (h4 : e = 4 → kd = n) : sy_top K VL st e n v t (nI (st_h K st)) tg kd wo := by
  obtain ⟨_, _, _, _, _, _, _, hadj, hroot⟩ := W
  cases st with
  | nil => exact ⟨h34, h4⟩
  | cons f st =>
    obtain ⟨r', i', p', y', c', a', e', n', t'⟩ := f
    have nx : ∀ hcs : fr_cs (K (40 * r' + i')) p' = 1, nI (st_h K ((r', i', p', y', c', a', e', n', t') :: st)) = nI (st_h K ((r', i', p', y', c', a', e', n', t') :: st) + (if e = 0 ∧ 1 ≤ p' ∧ fr_cs (K (40 * r' + i')) p' = 0 then 1 else 0)) := fun hcs => by rw [if_neg (fun z => by omega)]; rfl
    obtain ⟨h1, ⟨a1, a2, a3⟩ | ⟨b1, b2, b3, b4, b5⟩⟩ := hadj
    · have hcs : fr_cs (K (40 * r' + i')) p' = 1 := by rw [a1, a2]; rfl
      refine ⟨nx hcs, fun _ _ z => by omega, fun z => ?_, h34, h4⟩
      rcases hT.2.2.2 a1 a2 with q | q | q <;> rw [q] at z <;> exact absurd z (by decide)
    · have hcs : fr_cs (K (40 * r' + i')) p' = 1 := b4.symm.trans hs
      subst b2
      exact ⟨nx hcs, fun _ _ z => by omega, h12, h34, h4⟩
theorem sy_pop_x {r i p y c : Nat} {a e0 n0 : Int32} {t0 : Nat} {st : List Fr} (W : st_wf K V U LN ((r, i, p, y, c, a, e0, n0, t0) :: st)) (hs : tk_so (K (40 * r + i)) = 0) {n v : Int32} {t : Nat} {hd tg kd wo : Int32} (hv : VL (st_h K st) = v) : sy_top K VL st 0 n v t (nI (st_h K st + 1)) tg kd wo := by
  obtain ⟨_, _, _, _, _, _, _, hadj, hroot⟩ := W
  cases st with
  | nil => exact ⟨fun z => absurd z (by decide), fun z => absurd z (by decide)⟩
  | cons f st =>
    obtain ⟨r', i', p', y', c', a', e', n', t'⟩ := f
    obtain ⟨h1, ⟨a1, a2, a3⟩ | ⟨b1, b2, b3, b4, b5⟩⟩ := hadj
    · have := hroot a3
      omega
    · have hcs : fr_cs (K (40 * r' + i')) p' = 0 := b4.symm.trans hs
      refine ⟨by rw [if_pos ⟨rfl, h1, hcs⟩], fun _ _ _ => hv, fun z => absurd z (by decide), fun z => absurd z (by decide), fun z => absurd z (by decide)⟩
theorem sy_pop_4 {r i p y c : Nat} {a e0 n0 : Int32} {t0 : Nat} {st : List Fr} {n v : Int32} {t : Nat} {tg kd wo : Int32} (hw : wo = v) (hk : kd = n) : sy_top K VL st 4 n v t (nI (st_h K st)) tg kd wo := by
  cases st with
  | nil => exact ⟨fun _ => hw, fun _ => hk⟩
  | cons f st =>
    obtain ⟨r', i', p', y', c', a', e', n', t'⟩ := f
    exact ⟨by rw [if_neg (fun z => absurd z.1 (by decide))]; rfl, fun z => absurd z (by decide), fun z => absurd z (by decide), fun _ => hw, fun _ => hk⟩
end
end
section
/-- Y's kinds and values of the bodies are X's -/
def pg_E (K V KY VY : Nat → Int32) (LN : Nat → Nat) : Prop := ∀ r, r < 4 → ∀ i, i < LN r → KY (40 * r + i) = K (40 * r + i) ∧ VY (40 * r + i) = V (40 * r + i)
theorem tk_ok_x {k v : Int32} (h : tk_ok k v) (hs : tk_so k = 0) : tk_ok k 0 ∧ tk_np k 0 = tk_np k v := by
  have hk := tk_kinds h
  rcases hk with rfl | rfl | rfl | rfl | rfl | rfl | rfl | rfl | rfl | rfl | rfl | rfl | rfl | rfl | rfl | rfl | rfl | rfl | rfl | rfl | rfl
  all_goals first
    | exact absurd hs (by decide)
    | exact ⟨tk_mk_free (n := 0) (by decide) (by decide), rfl⟩
    | exact ⟨tk_mk6 (n := 1) (m := 0) (by decide) (by decide), rfl⟩
    | exact ⟨tk_mk_free (n := 2) (by decide) (by decide), rfl⟩
    | exact ⟨tk_mk_free (n := 3) (by decide) (by decide), rfl⟩
    | exact ⟨tk_mk_free (n := 4) (by decide) (by decide), rfl⟩
    | exact ⟨tk_mk_free (n := 5) (by decide) (by decide), rfl⟩
    | exact ⟨tk_mk_free (n := 6) (by decide) (by decide), rfl⟩
    | exact ⟨tk_mk_free (n := 7) (by decide) (by decide), rfl⟩
    | exact ⟨tk_mk4 (n := 8) (m := 0) (by decide) (by decide), rfl⟩
theorem vy_ix {w m : Nat} (h1 : 1 ≤ w) : 6 * (nI w - 1) + nI m = nI (6 * (w - 1) + m) := by
  obtain ⟨x, rfl⟩ : ∃ x, w = x + 1 := ⟨w - 1, by omega⟩
  rw [nI_pred, show (6 : Int32) * nI x = nI (6 * x) from pk_mul 6 x, nI_add]
  rfl
section
variable {f_place f_top f_held f_depth f_ended f_endTarget f_endKind f_endWorth f_steps f_says f_result f_thrown f_over : Int32} {a_kind a_up a_length a_value a_below a_open a_token a_height a_target a_phase a_how a_kinds a_worth a_values a_variables a_begun a_output : Nat → Int32} {post : SY → Prop} {T j y r i : Nat} {K V Z : Nat → Int32} {LN : Nat → Nat}
theorem yw_x {k : Int32} (hT : T < 600) (hj : j < 200) (eT : a_token T = nI j) (eK : a_kind j = k) (eP : a_phase T = nI y) (h9 : ¬ 9 ≤ k) (h : wpY_expression post (f_place, nI (T + 1), f_held, f_depth, f_ended, f_endTarget, f_endKind, f_endWorth, f_steps, f_says, f_result, f_thrown, f_over, a_kind, a_up, a_length, a_value, a_below, a_open, a_token, a_height, a_target, a_phase, a_how, a_kinds, a_worth, a_values, a_variables, a_begun, a_output) (nI j) k (nI y)) : wpY_work post (f_place, nI (T + 1), f_held, f_depth, f_ended, f_endTarget, f_endKind, f_endWorth, f_steps, f_says, f_result, f_thrown, f_over, a_kind, a_up, a_length, a_value, a_below, a_open, a_token, a_height, a_target, a_phase, a_how, a_kinds, a_worth, a_values, a_variables, a_begun, a_output) := by
  have e : nI (T + 1) - 1 = nI T := nI_pred T
  refine ⟨by rw [e]; exact vp_in_nI hT (by decide), nm_r (e' := nI j) (by rw [e, nI_clamp (by omega), eT]) ⟨vp_in_nI hj (by decide), nm_r (e' := k) (by rw [nI_clamp (by omega), eK]) ⟨by rw [e]; exact vp_in_nI hT (by decide), nm_r (e' := nI y) (by rw [e, nI_clamp (by omega), eP]) (br_f h9 h)⟩⟩⟩
theorem yw_t (hT : T < 600) (hj : j < 200) (eT : a_token T = nI j) (eK : a_kind j = 17) (eP : a_phase T = nI y) (h : wpY_attempt post (f_place, nI (T + 1), f_held, f_depth, f_ended, f_endTarget, f_endKind, f_endWorth, f_steps, f_says, f_result, f_thrown, f_over, a_kind, a_up, a_length, a_value, a_below, a_open, a_token, a_height, a_target, a_phase, a_how, a_kinds, a_worth, a_values, a_variables, a_begun, a_output) (nI j) (nI y)) : wpY_work post (f_place, nI (T + 1), f_held, f_depth, f_ended, f_endTarget, f_endKind, f_endWorth, f_steps, f_says, f_result, f_thrown, f_over, a_kind, a_up, a_length, a_value, a_below, a_open, a_token, a_height, a_target, a_phase, a_how, a_kinds, a_worth, a_values, a_variables, a_begun, a_output) := by
  have e : nI (T + 1) - 1 = nI T := nI_pred T
  refine ⟨by rw [e]; exact vp_in_nI hT (by decide), nm_r (e' := nI j) (by rw [e, nI_clamp (by omega), eT]) ⟨vp_in_nI hj (by decide), nm_r (e' := 17) (by rw [nI_clamp (by omega), eK]) ⟨by rw [e]; exact vp_in_nI hT (by decide), nm_r (e' := nI y) (by rw [e, nI_clamp (by omega), eP]) (br_t (by decide) (br_t rfl h))⟩⟩⟩
theorem yw_w (hT : T < 600) (hj : j < 200) (eT : a_token T = nI j) (eK : a_kind j = 13) (eP : a_phase T = nI y) (h : wpY_repeat post (f_place, nI (T + 1), f_held, f_depth, f_ended, f_endTarget, f_endKind, f_endWorth, f_steps, f_says, f_result, f_thrown, f_over, a_kind, a_up, a_length, a_value, a_below, a_open, a_token, a_height, a_target, a_phase, a_how, a_kinds, a_worth, a_values, a_variables, a_begun, a_output) (nI j) (nI y)) : wpY_work post (f_place, nI (T + 1), f_held, f_depth, f_ended, f_endTarget, f_endKind, f_endWorth, f_steps, f_says, f_result, f_thrown, f_over, a_kind, a_up, a_length, a_value, a_below, a_open, a_token, a_height, a_target, a_phase, a_how, a_kinds, a_worth, a_values, a_variables, a_begun, a_output) := by
  have e : nI (T + 1) - 1 = nI T := nI_pred T
  refine ⟨by rw [e]; exact vp_in_nI hT (by decide), nm_r (e' := nI j) (by rw [e, nI_clamp (by omega), eT]) ⟨vp_in_nI hj (by decide), nm_r (e' := 13) (by rw [nI_clamp (by omega), eK]) ⟨by rw [e]; exact vp_in_nI hT (by decide), nm_r (e' := nI y) (by rw [e, nI_clamp (by omega), eP]) (br_t (by decide) (br_f (by decide) (br_t rfl h)))⟩⟩⟩
theorem yw_s {k : Int32} (hT : T < 600) (hj : j < 200) (eT : a_token T = nI j) (eK : a_kind j = k) (eP : a_phase T = nI y) (h9 : 9 ≤ k) (h17 : ¬ k = 17) (h13 : ¬ k = 13) (h : wpY_statement post (f_place, nI (T + 1), f_held, f_depth, f_ended, f_endTarget, f_endKind, f_endWorth, f_steps, f_says, f_result, f_thrown, f_over, a_kind, a_up, a_length, a_value, a_below, a_open, a_token, a_height, a_target, a_phase, a_how, a_kinds, a_worth, a_values, a_variables, a_begun, a_output) (nI j) k (nI y)) : wpY_work post (f_place, nI (T + 1), f_held, f_depth, f_ended, f_endTarget, f_endKind, f_endWorth, f_steps, f_says, f_result, f_thrown, f_over, a_kind, a_up, a_length, a_value, a_below, a_open, a_token, a_height, a_target, a_phase, a_how, a_kinds, a_worth, a_values, a_variables, a_begun, a_output) := by
  have e : nI (T + 1) - 1 = nI T := nI_pred T
  refine ⟨by rw [e]; exact vp_in_nI hT (by decide), nm_r (e' := nI j) (by rw [e, nI_clamp (by omega), eT]) ⟨vp_in_nI hj (by decide), nm_r (e' := k) (by rw [nI_clamp (by omega), eK]) ⟨by rw [e]; exact vp_in_nI hT (by decide), nm_r (e' := nI y) (by rw [e, nI_clamp (by omega), eP]) (br_t h9 (br_f h17 (br_f h13 h)))⟩⟩⟩
/-- a part begins -/
theorem yo_begin {jj hh : Nat} (hT : T < 600) (hj : jj < 200) (hh7 : hh < 700) (h : post (f_place, nI (T + 1), nI hh, f_depth, 0, f_endTarget, f_endKind, f_endWorth, f_steps, f_says, f_result, f_thrown, f_over, a_kind, a_up, a_length, a_value, a_below, a_open, upd a_token T (nI jj), upd a_height T (nI hh), a_target, upd a_phase T 0, a_how, a_kinds, a_worth, a_values, a_variables, a_begun, a_output)) : wpY_begin post (f_place, nI T, nI hh, f_depth, f_ended, f_endTarget, f_endKind, f_endWorth, f_steps, f_says, f_result, f_thrown, f_over, a_kind, a_up, a_length, a_value, a_below, a_open, a_token, a_height, a_target, a_phase, a_how, a_kinds, a_worth, a_values, a_variables, a_begun, a_output) (nI jj) := by
  have hv := vp_in_nI hT (by decide)
  refine ⟨hv, nm_r (e' := upd a_token T (nI jj)) (by rw [nI_clamp (by omega), qb_ns16 (by omega)]) ⟨hv, nm_r (e' := upd a_phase T 0) (by rw [nI_clamp (by omega)]; exact congrArg (upd a_phase T) (qb_nb (n := 0) (by decide))) (nm_r (nI_1 T) ⟨hv, nm_r (e' := upd a_height T (nI hh)) (by rw [nI_clamp (by omega), qb_ns16 (by omega)]) h⟩)⟩⟩
theorem yo_op (P : pg_T K V Z a_up a_below LN) (hr : r < 4) (hi : i < LN r) {o hh : Nat} (hT : T + 1 < 600) (hh7 : hh < 700) (eT : a_token T = nI (40 * r + i)) (ho : o < tk_np (K (40 * r + i)) (V (40 * r + i))) (h : post (f_place, nI (T + 1 + 1), nI hh, f_depth, 0, f_endTarget, f_endKind, f_endWorth, f_steps, f_says, f_result, f_thrown, f_over, a_kind, a_up, a_length, a_value, a_below, a_open, upd a_token (T + 1) (nI (40 * r + tr_ca (ro Z r) i o)), upd a_height (T + 1) (nI hh), a_target, upd (upd a_phase T (nI (o + 1))) (T + 1) 0, a_how, a_kinds, a_worth, a_values, a_variables, a_begun, a_output)) : wpY_operand post (f_place, nI (T + 1), nI hh, f_depth, f_ended, f_endTarget, f_endKind, f_endWorth, f_steps, f_says, f_result, f_thrown, f_over, a_kind, a_up, a_length, a_value, a_below, a_open, a_token, a_height, a_target, a_phase, a_how, a_kinds, a_worth, a_values, a_variables, a_begun, a_output) (nI o) := by
  obtain ⟨hk, hj, hi40⟩ := pg_tok P hr hi
  have h4 := tk_np_le hk
  have Tr := P r hr (by omega)
  have hL := Tr.2.1
  obtain ⟨t1, t2, t3, t4⟩ := (Tr.2.2.2 i hi).2.2.1 o ho
  have e : nI (T + 1) - 1 = nI T := nI_pred T
  have e4 : (4 : Int32) * nI (40 * r + i) + nI o = nI (160 * r + (4 * i + o)) := by
    rw [show (4 : Int32) * nI (40 * r + i) = nI (4 * (40 * r + i)) from pk_mul 4 _, nI_add]
    exact congrArg nI (by omega)
  have ed : nI (40 * r + i) / 40 * 40 = nI (40 * r) := by
    rw [show nI (40 * r + i) / 40 = nI ((40 * r + i) / 40) from pk_div (d := 40) (by omega) (by omega) (by omega), show nI ((40 * r + i) / 40) * 40 = nI ((40 * r + i) / 40 * 40) from pk_mul _ 40]
    exact congrArg nI (by omega)
  refine ⟨by rw [e]; exact vp_in_nI (by omega) (by decide), nm_r (e' := nI (40 * r + i)) (by rw [e, nI_clamp (by omega), eT]) ⟨by rw [e]; exact vp_in_nI (by omega) (by decide), nm_r (e' := upd a_phase T (nI (o + 1))) (by rw [e, nI_clamp (by omega), nI_1, qb_nb8 (by omega)]) ⟨by decide, ?_, ?_⟩⟩⟩
  · rw [e4]
    exact vp_in_nI (by omega) (by decide)
  · rw [e4, nI_clamp (by omega), ed]
    have t2' : a_below (160 * r + (4 * i + o)) = nI (tr_ca (ro Z r) i o) := t2
    rw [t2', nI_add]
    exact yo_begin hT (by omega) hh7 h
theorem yo_thr0 {hh : Nat} {x : Int32} (hT : T < 600) (eH : a_height T = nI hh) (h : post (f_place, nI T, nI hh, f_depth, f_ended, f_endTarget, f_endKind, f_endWorth, f_steps, f_says, f_result, f_thrown, f_over, a_kind, a_up, a_length, a_value, a_below, a_open, a_token, a_height, a_target, a_phase, a_how, a_kinds, a_worth, a_values, a_variables, a_begun, a_output)) : wpY_through post (f_place, nI (T + 1), f_held, f_depth, f_ended, f_endTarget, f_endKind, f_endWorth, f_steps, f_says, f_result, f_thrown, f_over, a_kind, a_up, a_length, a_value, a_below, a_open, a_token, a_height, a_target, a_phase, a_how, a_kinds, a_worth, a_values, a_variables, a_begun, a_output) 0 x := by
  refine nm_r (nI_pred T) ⟨vp_in_nI hT (by decide), nm_r (e' := nI hh) (by rw [nI_clamp (by omega), eH]) (br_t rfl h)⟩
theorem yo_thr1 {hh : Nat} {x : Int32} (hT : T < 600) (hh7 : hh < 700) (eH : a_height T = nI hh) (h : post (f_place, nI T, nI (hh + 1), f_depth, f_ended, f_endTarget, f_endKind, f_endWorth, f_steps, f_says, f_result, f_thrown, f_over, a_kind, a_up, a_length, a_value, a_below, a_open, a_token, a_height, a_target, a_phase, a_how, a_kinds, a_worth, upd a_values hh x, a_variables, a_begun, a_output)) : wpY_through post (f_place, nI (T + 1), f_held, f_depth, f_ended, f_endTarget, f_endKind, f_endWorth, f_steps, f_says, f_result, f_thrown, f_over, a_kind, a_up, a_length, a_value, a_below, a_open, a_token, a_height, a_target, a_phase, a_how, a_kinds, a_worth, a_values, a_variables, a_begun, a_output) 1 x := by
  refine nm_r (nI_pred T) ⟨vp_in_nI hT (by decide), nm_r (e' := nI hh) (by rw [nI_clamp (by omega), eH]) (br_f (by decide) (nm_r (nI_1 hh) ⟨vp_in_nI hh7 (by decide), nm_r (by rw [nI_clamp (by omega)]) h⟩))⟩
/-- an expression: not a call that comes back -/
theorem ye_in {k v : Int32} (hk : tk_ok k v) (hs : tk_so k = 0) (h2 : k = 8 → y ≤ 1) (hy : y < 10) (h : wY_expression_23 post (nI j) k (nI y) (nI (tk_np k v)) f_place f_top f_held f_depth f_ended f_endTarget f_endKind f_endWorth f_steps f_says f_result f_thrown f_over a_kind a_up a_length a_value a_below a_open a_token a_height a_target a_phase a_how a_kinds a_worth a_values a_variables a_begun a_output) : wpY_expression post (f_place, f_top, f_held, f_depth, f_ended, f_endTarget, f_endKind, f_endWorth, f_steps, f_says, f_result, f_thrown, f_over, a_kind, a_up, a_length, a_value, a_below, a_open, a_token, a_height, a_target, a_phase, a_how, a_kinds, a_worth, a_values, a_variables, a_begun, a_output) (nI j) k (nI y) := by
  obtain ⟨h0, e0⟩ := tk_ok_x hk hs
  unfold wpY_expression
  refine qy_op h0 ?_
  rw [e0]
  refine br_c (fun e => br_f (fun z => ?_) h) (fun _ => h)
  have := (nI_eq (a := y) (b := 2) (by omega) (by omega)).mp z
  have := h2 e
  omega
theorem ye_thrown {k : Int32} {x4 hh : Nat} (hT : T < 600) (eH : a_height T = nI hh) (h : post (f_place, nI T, nI hh, f_depth, 4, f_endTarget, f_endKind, f_endWorth, f_steps, f_says, f_result, f_thrown, f_over, a_kind, a_up, a_length, a_value, a_below, a_open, a_token, a_height, a_target, a_phase, a_how, a_kinds, a_worth, a_values, a_variables, a_begun, a_output)) : wY_expression_23 post (nI j) k (nI y) (nI x4) f_place (nI (T + 1)) f_held f_depth 4 f_endTarget f_endKind f_endWorth f_steps f_says f_result f_thrown f_over a_kind a_up a_length a_value a_below a_open a_token a_height a_target a_phase a_how a_kinds a_worth a_values a_variables a_begun a_output := br_t rfl (yo_thr0 hT eH h)
theorem ye_part (P : pg_T K V Z a_up a_below LN) (hr : r < 4) (hi : i < LN r) {hh : Nat} (hT : T + 1 < 600) (hh7 : hh < 700) (eT : a_token T = nI (40 * r + i)) (ho : y < tk_np (K (40 * r + i)) (V (40 * r + i))) (h : post (f_place, nI (T + 1 + 1), nI hh, f_depth, 0, f_endTarget, f_endKind, f_endWorth, f_steps, f_says, f_result, f_thrown, f_over, a_kind, a_up, a_length, a_value, a_below, a_open, upd a_token (T + 1) (nI (40 * r + tr_ca (ro Z r) i y)), upd a_height (T + 1) (nI hh), a_target, upd (upd a_phase T (nI (y + 1))) (T + 1) 0, a_how, a_kinds, a_worth, a_values, a_variables, a_begun, a_output)) {k : Int32} : wY_expression_23 post (nI j) k (nI y) (nI (tk_np (K (40 * r + i)) (V (40 * r + i)))) f_place (nI (T + 1)) (nI hh) f_depth 0 f_endTarget f_endKind f_endWorth f_steps f_says f_result f_thrown f_over a_kind a_up a_length a_value a_below a_open a_token a_height a_target a_phase a_how a_kinds a_worth a_values a_variables a_begun a_output := by
  have h4 := tk_np_le (pg_tok P hr hi).1
  exact br_f (by decide) (br_f (nI_ge ho (by omega)) (yo_op P hr hi hT hh7 eT ho h))
theorem ye_num {hh : Nat} (hT : T < 600) (hj : j < 200) (hh7 : hh < 700) (eH : a_height T = nI hh) (h : post (f_place, nI T, nI (hh + 1), f_depth, 0, f_endTarget, f_endKind, f_endWorth, f_steps, f_says, f_result, f_thrown, f_over, a_kind, a_up, a_length, a_value, a_below, a_open, a_token, a_height, a_target, a_phase, a_how, a_kinds, a_worth, upd a_values hh (a_value j), a_variables, a_begun, a_output)) : wY_expression_23 post (nI j) 0 (nI 0) (nI 0) f_place (nI (T + 1)) f_held f_depth 0 f_endTarget f_endKind f_endWorth f_steps f_says f_result f_thrown f_over a_kind a_up a_length a_value a_below a_open a_token a_height a_target a_phase a_how a_kinds a_worth a_values a_variables a_begun a_output := by
  refine br_f (by decide) (br_t (by decide) (br_f (by decide) (br_t (by decide) ⟨vp_in_nI hj (by decide), ?_⟩)))
  rw [nI_clamp (n := j) (by omega)]
  exact br_t (by decide) (br_f (by decide) (br_f (by decide) (br_f (by decide) (yo_thr1 hT hh7 eH h))))
theorem ye_var {hh w mm : Nat} (hT : T < 600) (hj : j < 200) (hh7 : hh < 700) (eH : a_height T = nI hh) (hv : a_value j = nI mm) (hm : mm < 6) (w1 : 1 ≤ w) (w12 : w ≤ 12) (h : post (f_place, nI T, nI (hh + 1), nI w, 0, f_endTarget, f_endKind, f_endWorth, f_steps, f_says, f_result, f_thrown, f_over, a_kind, a_up, a_length, a_value, a_below, a_open, a_token, a_height, a_target, a_phase, a_how, a_kinds, a_worth, upd a_values hh (a_variables (6 * (w - 1) + mm)), a_variables, a_begun, a_output)) : wY_expression_23 post (nI j) 1 (nI 0) (nI 0) f_place (nI (T + 1)) f_held (nI w) 0 f_endTarget f_endKind f_endWorth f_steps f_says f_result f_thrown f_over a_kind a_up a_length a_value a_below a_open a_token a_height a_target a_phase a_how a_kinds a_worth a_values a_variables a_begun a_output := by
  refine br_f (by decide) (br_t (by decide) (br_f (by decide) (br_t (by decide) ⟨vp_in_nI hj (by decide), ?_⟩)))
  refine br_t (by decide) (br_t (by decide) ⟨vp_in_nI hj (by decide), ?_, nm_r (e' := a_variables (6 * (w - 1) + mm)) ?_ ?_⟩)
  · rw [nI_clamp (n := j) (by omega), hv, vy_ix w1]
    exact vp_in_nI (by omega) (by decide)
  · rw [nI_clamp (n := j) (by omega), hv, vy_ix w1, nI_clamp (by omega)]
  · exact br_f (by decide) (br_f (by decide) (yo_thr1 hT hh7 eH h))
/-- what an operation of two gives -/
def ev_2 (k a b : Int32) : Int32 := if k = 2 then a + b else if k = 3 then a - b else if k = 4 then a * b else if k = 5 then a / b else if b ≤ a then 0 else 1
theorem ye_two {hh : Nat} {k : Int32} (hk : k = 2 ∨ k = 3 ∨ k = 4 ∨ k = 5 ∨ k = 6) (hd : k = 5 → ¬ a_values (hh + 1) = 0) (hT : T < 600) (hh7 : hh + 1 < 700) (eH : a_height T = nI hh) (h : post (f_place, nI T, nI (hh + 1), f_depth, 0, f_endTarget, f_endKind, f_endWorth, f_steps, f_says, f_result, f_thrown, f_over, a_kind, a_up, a_length, a_value, a_below, a_open, a_token, a_height, a_target, a_phase, a_how, a_kinds, a_worth, upd a_values hh (ev_2 k (a_values hh) (a_values (hh + 1))), a_variables, a_begun, a_output)) : wY_expression_23 post (nI j) k (nI 2) (nI 2) f_place (nI (T + 1)) (nI (hh + 2)) f_depth 0 f_endTarget f_endKind f_endWorth f_steps f_says f_result f_thrown f_over a_kind a_up a_length a_value a_below a_open a_token a_height a_target a_phase a_how a_kinds a_worth a_values a_variables a_begun a_output := by
  have e2 : nI (hh + 2) - nI 2 = nI hh := pk_sub (by omega)
  have e1 : nI (hh + 2) - 1 = nI (hh + 1) := nI_pred (hh + 1)
  refine br_f (by decide) (br_t (by decide) (br_f (by rcases hk with rfl | rfl | rfl | rfl | rfl <;> decide) (br_f (by decide) ⟨by rw [e2]; exact vp_in_nI (by omega) (by decide), br_f (by decide) ⟨by rw [e1]; exact vp_in_nI (by omega) (by decide), ?_⟩⟩)))
  rw [e1, e2, nI_clamp (n := hh) (by omega), nI_clamp (n := hh + 1) (by omega)]
  refine br_f (by rcases hk with rfl | rfl | rfl | rfl | rfl <;> decide) ?_
  have go : wY_expression_229 post k (a_values hh) (a_values (hh + 1)) f_place (nI (T + 1)) (nI (hh + 2)) f_depth 0 f_endTarget f_endKind f_endWorth f_steps f_says f_result f_thrown f_over a_kind a_up a_length a_value a_below a_open a_token a_height a_target a_phase a_how a_kinds a_worth a_values a_variables a_begun a_output := by
    have fin : wY_expression_247 post (ev_2 k (a_values hh) (a_values (hh + 1))) f_place (nI (T + 1)) (nI (hh + 2)) f_depth 0 f_endTarget f_endKind f_endWorth f_steps f_says f_result f_thrown f_over a_kind a_up a_length a_value a_below a_open a_token a_height a_target a_phase a_how a_kinds a_worth a_values a_variables a_begun a_output := yo_thr1 hT (by omega) eH h
    rcases hk with rfl | rfl | rfl | rfl | rfl
    · exact br_t (by decide) (br_f (by decide) (br_f (by decide) (br_t (by decide) fin)))
    · exact br_t (by decide) (br_f (by decide) (br_f (by decide) (br_f (by decide) (br_t (by decide) fin))))
    · exact br_t (by decide) (br_f (by decide) (br_f (by decide) (br_f (by decide) (br_f (by decide) (br_t (by decide) fin)))))
    · exact br_t (by decide) (br_f (by decide) (br_f (by decide) (br_f (by decide) (br_f (by decide) (br_f (by decide) (br_t (by decide) (br_f (hd rfl) ⟨hd rfl, fin⟩)))))))
    · refine br_t (by decide) (br_f (by decide) (br_f (by decide) (br_f (by decide) (br_f (by decide) (br_f (by decide) (br_f (by decide) (br_t (by decide) (br_c (fun z => ?_) (fun z => ?_)))))))))
      · have e : ev_2 6 (a_values hh) (a_values (hh + 1)) = 0 := if_pos z
        rw [e] at fin
        exact fin
      · have e : ev_2 6 (a_values hh) (a_values (hh + 1)) = 1 := if_neg z
        rw [e] at fin
        exact fin
  exact br_c (fun e => br_f (hd e) go) (fun _ => go)
theorem ye_div0 {hh : Nat} (h0 : a_values (hh + 1) = 0) (hT : T < 600) (hh7 : hh + 1 < 700) (eH : a_height T = nI hh) (h : post (f_place, nI T, nI hh, f_depth, 4, f_endTarget, 0, a_values hh, f_steps, f_says, f_result, f_thrown, f_over, a_kind, a_up, a_length, a_value, a_below, a_open, a_token, a_height, a_target, a_phase, a_how, a_kinds, a_worth, a_values, a_variables, a_begun, a_output)) : wY_expression_23 post (nI j) 5 (nI 2) (nI 2) f_place (nI (T + 1)) (nI (hh + 2)) f_depth 0 f_endTarget f_endKind f_endWorth f_steps f_says f_result f_thrown f_over a_kind a_up a_length a_value a_below a_open a_token a_height a_target a_phase a_how a_kinds a_worth a_values a_variables a_begun a_output := by
  have e2 : nI (hh + 2) - nI 2 = nI hh := pk_sub (by omega)
  have e1 : nI (hh + 2) - 1 = nI (hh + 1) := nI_pred (hh + 1)
  refine br_f (by decide) (br_t (by decide) (br_f (by decide) (br_f (by decide) ⟨by rw [e2]; exact vp_in_nI (by omega) (by decide), br_f (by decide) ⟨by rw [e1]; exact vp_in_nI (by omega) (by decide), ?_⟩⟩)))
  rw [e1, e2, nI_clamp (n := hh) (by omega), nI_clamp (n := hh + 1) (by omega)]
  have g : wpY_through post (f_place, nI (T + 1), nI (hh + 2), f_depth, 4, f_endTarget, 0, a_values hh, f_steps, f_says, f_result, f_thrown, f_over, a_kind, a_up, a_length, a_value, a_below, a_open, a_token, a_height, a_target, a_phase, a_how, a_kinds, a_worth, a_values, a_variables, a_begun, a_output) 0 0 := yo_thr0 hT eH h
  exact br_f (by decide) (br_t rfl (br_t h0 g))
theorem ye_not {hh : Nat} (hT : T < 600) (hh7 : hh < 700) (eH : a_height T = nI hh) (h : post (f_place, nI T, nI (hh + 1), f_depth, 0, f_endTarget, f_endKind, f_endWorth, f_steps, f_says, f_result, f_thrown, f_over, a_kind, a_up, a_length, a_value, a_below, a_open, a_token, a_height, a_target, a_phase, a_how, a_kinds, a_worth, upd a_values hh (if a_values hh = 0 then 1 else 0), a_variables, a_begun, a_output)) : wY_expression_23 post (nI j) 7 (nI 1) (nI 1) f_place (nI (T + 1)) (nI (hh + 1)) f_depth 0 f_endTarget f_endKind f_endWorth f_steps f_says f_result f_thrown f_over a_kind a_up a_length a_value a_below a_open a_token a_height a_target a_phase a_how a_kinds a_worth a_values a_variables a_begun a_output := by
  have e1 : nI (hh + 1) - nI 1 = nI hh := nI_pred hh
  refine br_f (by decide) (br_t (by decide) (br_f (by decide) (br_f (by decide) ⟨by rw [e1]; exact vp_in_nI (by omega) (by decide), br_t (by decide) ?_⟩)))
  rw [e1, nI_clamp (n := hh) (by omega)]
  refine br_f (by decide) (br_f (by decide) (br_t (by decide) (br_f (by decide) (br_t (by decide) (br_c (fun z => ?_) (fun z => ?_))))))
  · rw [if_pos z] at h
    exact yo_thr1 hT hh7 eH h
  · rw [if_neg z] at h
    exact yo_thr1 hT hh7 eH h
/-- Y's call -/
theorem yb_none {f : Nat} {a : Int32} (hf : f < 4) (hb : a_length f = 0) (h : post (f_place, f_top, f_held, f_depth, 4, f_endTarget, 1, nI f, f_steps, f_says, f_result, f_thrown, f_over, a_kind, a_up, a_length, a_value, a_below, a_open, a_token, a_height, a_target, a_phase, a_how, a_kinds, a_worth, a_values, a_variables, a_begun, a_output)) : wpY_call post (f_place, f_top, f_held, f_depth, f_ended, f_endTarget, f_endKind, f_endWorth, f_steps, f_says, f_result, f_thrown, f_over, a_kind, a_up, a_length, a_value, a_below, a_open, a_token, a_height, a_target, a_phase, a_how, a_kinds, a_worth, a_values, a_variables, a_begun, a_output) (nI f) a := by
  refine ⟨vp_in_nI (by omega) (by decide), br_t ?_ h⟩
  rw [nI_clamp (by omega)]
  exact hb
theorem yb_over {f : Nat} {a : Int32} (hf : f < 4) (hb : ¬ a_length f = 0) (h : post (f_place, f_top, f_held, f_depth, f_ended, f_endTarget, f_endKind, f_endWorth, nI 300, f_says, f_result, f_thrown, 1, a_kind, a_up, a_length, a_value, a_below, a_open, a_token, a_height, a_target, a_phase, a_how, a_kinds, a_worth, a_values, a_variables, a_begun, a_output)) : wpY_call post (f_place, f_top, f_held, f_depth, f_ended, f_endTarget, f_endKind, f_endWorth, nI 300, f_says, f_result, f_thrown, f_over, a_kind, a_up, a_length, a_value, a_below, a_open, a_token, a_height, a_target, a_phase, a_how, a_kinds, a_worth, a_values, a_variables, a_begun, a_output) (nI f) a := by
  refine ⟨vp_in_nI (by omega) (by decide), br_f ?_ (br_t rfl (br_t rfl h))⟩
  rw [nI_clamp (by omega)]
  exact hb
theorem ne_300 {q : Nat} (hq : q < 300) : ¬ nI q = 300 := fun z => by
  have := (nI_eq (a := q) (b := 300) (by omega) (by omega)).mp z
  omega
theorem yb_deep {f q : Nat} {a : Int32} (hf : f < 4) (hb : ¬ a_length f = 0) (hq : q < 300) (h : post (f_place, f_top, f_held, nI 12, 4, f_endTarget, 2, nI f, nI (q + 1), f_says, f_result, f_thrown, f_over, a_kind, a_up, a_length, a_value, a_below, a_open, a_token, a_height, a_target, a_phase, a_how, a_kinds, a_worth, a_values, a_variables, a_begun, a_output)) : wpY_call post (f_place, f_top, f_held, nI 12, f_ended, f_endTarget, f_endKind, f_endWorth, nI q, f_says, f_result, f_thrown, f_over, a_kind, a_up, a_length, a_value, a_below, a_open, a_token, a_height, a_target, a_phase, a_how, a_kinds, a_worth, a_values, a_variables, a_begun, a_output) (nI f) a := by
  refine ⟨vp_in_nI (by omega) (by decide), br_f ?_ (br_f (ne_300 hq) (nm_r (nI_1 q) (br_f (by decide) (br_t rfl h))))⟩
  rw [nI_clamp (by omega)]
  exact hb
def yv (va : Nat → Int32) (w m : Nat) (x : Int32) : Nat → Int32 := fun q => if 6 * w ≤ q ∧ q < 6 * w + m then (if q = 6 * w then x else 0) else va q
theorem yv_6 {va : Nat → Int32} {w : Nat} {x : Int32} : yv va w 6 x = vset va w x := by
  funext q
  unfold yv vset upd vz
  by_cases e : q = 6 * w
  · rw [if_pos e, if_pos e, if_pos (by omega)]
  · rw [if_neg e, if_neg e]
theorem yv_0 {va : Nat → Int32} {w : Nat} {x : Int32} : yv va w 0 x = va := by
  funext q
  exact if_neg (by omega)
theorem yv_s {va : Nat → Int32} {w m : Nat} {x z : Int32} (hz : z = if m = 0 then x else 0) : upd (yv va w m x) (6 * w + m) z = yv va w (m + 1) x := by
  funext q
  unfold upd yv
  by_cases e : q = 6 * w + m
  · rw [if_pos e, if_pos (by omega), hz]
    by_cases e0 : m = 0
    · rw [if_pos e0, if_pos (by omega)]
    · rw [if_neg e0, if_neg (by omega)]
  · rw [if_neg e]
    by_cases e2 : 6 * w ≤ q ∧ q < 6 * w + m
    · rw [if_pos e2, if_pos (show 6 * w ≤ q ∧ q < 6 * w + (m + 1) from by omega)]
    · rw [if_neg e2, if_neg (by omega)]
theorem yb_go {f q w hh : Nat} {a : Int32} (hT : T < 600) (hh7 : hh < 700) (hf : f < 4) (hb : ¬ a_length f = 0) (hq : q < 300) (hw : w < 12) (h : post (f_place, nI (T + 1), nI hh, nI (w + 1), 0, f_endTarget, f_endKind, f_endWorth, nI (q + 1), f_says, f_result, f_thrown, f_over, a_kind, a_up, a_length, a_value, a_below, a_open, upd a_token T (nI (40 * f)), upd a_height T (nI hh), a_target, upd a_phase T 0, a_how, a_kinds, a_worth, a_values, vset a_variables w a, a_begun, a_output)) : wpY_call post (f_place, nI T, nI hh, nI w, f_ended, f_endTarget, f_endKind, f_endWorth, nI q, f_says, f_result, f_thrown, f_over, a_kind, a_up, a_length, a_value, a_below, a_open, a_token, a_height, a_target, a_phase, a_how, a_kinds, a_worth, a_values, a_variables, a_begun, a_output) (nI f) a := by
  have ix : ∀ m, 6 * nI w + nI m = nI (6 * w + m) := fun m => by rw [show (6 : Int32) * nI w = nI (6 * w) from pk_mul 6 w, nI_add]
  have Lp : ∀ d m, m + d = 6 → wY_call_45 post (nI f) a f_place (nI T) (nI hh) (nI w) f_ended f_endTarget f_endKind f_endWorth (nI (q + 1)) f_says f_result f_thrown f_over (d + 1) (nI m) a_kind a_up a_length a_value a_below a_open a_token a_height a_target a_phase a_how a_kinds a_worth a_values (yv a_variables w m a) a_begun a_output := by
    intro d
    induction d with
    | zero =>
      intro m hm
      have : m = 6 := by omega
      subst this
      refine br_t (by decide) (nm_r (nI_1 w) ?_)
      rw [yv_6, show (40 : Int32) * nI f = nI (40 * f) from pk_mul 40 f]
      exact yo_begin hT (by omega) hh7 h
    | succ d ih =>
      intro m hm
      refine br_f (nI_ge (b := 6) (by omega) (by decide)) (pk_eq m 0 (fun e => ⟨?_, nm_r (e' := yv a_variables w (m + 1) a) ?_ (nm_r (nI_1 m) (ih (m + 1) (by omega)))⟩) (fun e => ⟨?_, nm_r (e' := yv a_variables w (m + 1) a) ?_ (nm_r (nI_1 m) (ih (m + 1) (by omega)))⟩))
      · rw [ix m]; exact vp_in_nI (by omega) (by decide)
      · rw [ix m, nI_clamp (by omega)]
        exact yv_s (by rw [if_pos e])
      · rw [ix m]; exact vp_in_nI (by omega) (by decide)
      · rw [ix m, nI_clamp (by omega)]
        exact yv_s (by rw [if_neg e])
  refine ⟨vp_in_nI (by omega) (by decide), br_f ?_ (br_f (ne_300 hq) (nm_r (nI_1 q) (br_f (by decide) (br_f ?_ ⟨7, ?_⟩))))⟩
  · rw [nI_clamp (by omega)]
    exact hb
  · intro z
    have := (nI_eq (a := w) (b := 12) (by omega) (by omega)).mp z
    omega
  · have := Lp 6 0 (by omega)
    rw [yv_0] at this
    exact this
end
end
section
section
variable {f_place f_top f_held f_depth f_ended f_endTarget f_endKind f_endWorth f_steps f_says f_result f_thrown f_over : Int32} {a_kind a_up a_length a_value a_below a_open a_token a_height a_target a_phase a_how a_kinds a_worth a_values a_variables a_begun a_output : Nat → Int32} {post : SY → Prop} {T j y r i hh : Nat} {K V Z : Nat → Int32} {LN : Nat → Nat}
theorem yc_1 {f : Nat} (hT : T + 1 < 600) (hj : j < 200) (hh7 : hh < 700) (hv : a_value j = nI f) (h : wpY_call (fun u => match u with
    | (f_place, f_top, f_held, f_depth, f_ended, f_endTarget, f_endKind, f_endWorth, f_steps, f_says, f_result, f_thrown, f_over, a_kind, a_up, a_length, a_value, a_below, a_open, a_token, a_height, a_target, a_phase, a_how, a_kinds, a_worth, a_values, a_variables, a_begun, a_output) => ((f_top ≤ nI T + 1 → (vp_in (nI T) 600 ∧ ∀ b : Nat → Int32, b = upd a_begun (nI T).toNatClampNeg (vp_nar .boolean 0) → post (f_place, f_top, f_held, f_depth, f_ended, f_endTarget, f_endKind, f_endWorth, f_steps, f_says, f_result, f_thrown, f_over, a_kind, a_up, a_length, a_value, a_below, a_open, a_token, a_height, a_target, a_phase, a_how, a_kinds, a_worth, a_values, a_variables, b, a_output))) ∧ (¬ f_top ≤ nI T + 1 → (vp_in (nI T) 600 ∧ ∀ b : Nat → Int32, b = upd a_begun (nI T).toNatClampNeg (vp_nar .boolean 1) → post (f_place, f_top, f_held, f_depth, f_ended, f_endTarget, f_endKind, f_endWorth, f_steps, f_says, f_result, f_thrown, f_over, a_kind, a_up, a_length, a_value, a_below, a_open, a_token, a_height, a_target, a_phase, a_how, a_kinds, a_worth, a_values, a_variables, b, a_output))))) (f_place, nI (T + 1), nI hh, f_depth, 0, f_endTarget, f_endKind, f_endWorth, f_steps, f_says, f_result, f_thrown, f_over, a_kind, a_up, a_length, a_value, a_below, a_open, a_token, a_height, a_target, upd a_phase T 2, a_how, a_kinds, a_worth, a_values, a_variables, a_begun, a_output) (nI f) (a_values hh)) : wY_expression_23 post (nI j) 8 (nI 1) (nI 1) f_place (nI (T + 1)) (nI (hh + 1)) f_depth 0 f_endTarget f_endKind f_endWorth f_steps f_says f_result f_thrown f_over a_kind a_up a_length a_value a_below a_open a_token a_height a_target a_phase a_how a_kinds a_worth a_values a_variables a_begun a_output := by
  have e1 : nI (hh + 1) - 1 = nI hh := nI_pred hh
  refine br_f (by decide) (br_t (by decide) (br_t rfl (nm_r (nI_pred T) ⟨vp_in_nI (by omega) (by decide), nm_r (e' := upd a_phase T 2) (by rw [nI_clamp (by omega)]; exact congrArg (upd a_phase T) (qb_nb (n := 2) (by decide))) (nm_r e1 ⟨by rw [e1]; exact vp_in_nI hh7 (by decide), nm_r (e' := a_values hh) (by rw [e1, nI_clamp (by omega)]) ⟨vp_in_nI hj (by decide), ?_⟩⟩)⟩)))
  rw [nI_clamp (n := j) (by omega), hv]
  exact h
theorem yc_none {f : Nat} (hT : T + 1 < 600) (hj : j < 200) (hh7 : hh < 700) (hf : f < 4) (hv : a_value j = nI f) (hb : a_length f = 0) (h : post (f_place, nI (T + 1), nI hh, f_depth, 4, f_endTarget, 1, nI f, f_steps, f_says, f_result, f_thrown, f_over, a_kind, a_up, a_length, a_value, a_below, a_open, a_token, a_height, a_target, upd a_phase T 2, a_how, a_kinds, a_worth, a_values, a_variables, upd a_begun T 0, a_output)) : wY_expression_23 post (nI j) 8 (nI 1) (nI 1) f_place (nI (T + 1)) (nI (hh + 1)) f_depth 0 f_endTarget f_endKind f_endWorth f_steps f_says f_result f_thrown f_over a_kind a_up a_length a_value a_below a_open a_token a_height a_target a_phase a_how a_kinds a_worth a_values a_variables a_begun a_output := by
  refine yc_1 hT hj hh7 hv (yb_none hf hb (br_t ?_ ⟨vp_in_nI (by omega) (by decide), nm_r (e' := upd a_begun T 0) (by rw [nI_clamp (by omega)]; rfl) h⟩))
  rw [nI_1]
  exact nI_le (Nat.le_refl _) (by omega)
theorem yc_over {f : Nat} (hT : T + 1 < 600) (hj : j < 200) (hh7 : hh < 700) (hf : f < 4) (hv : a_value j = nI f) (hb : ¬ a_length f = 0) (h : post (f_place, nI (T + 1), nI hh, f_depth, 0, f_endTarget, f_endKind, f_endWorth, nI 300, f_says, f_result, f_thrown, 1, a_kind, a_up, a_length, a_value, a_below, a_open, a_token, a_height, a_target, upd a_phase T 2, a_how, a_kinds, a_worth, a_values, a_variables, upd a_begun T 0, a_output)) : wY_expression_23 post (nI j) 8 (nI 1) (nI 1) f_place (nI (T + 1)) (nI (hh + 1)) f_depth 0 f_endTarget f_endKind f_endWorth (nI 300) f_says f_result f_thrown f_over a_kind a_up a_length a_value a_below a_open a_token a_height a_target a_phase a_how a_kinds a_worth a_values a_variables a_begun a_output := by
  refine yc_1 hT hj hh7 hv (yb_over hf hb (br_t ?_ ⟨vp_in_nI (by omega) (by decide), nm_r (e' := upd a_begun T 0) (by rw [nI_clamp (by omega)]; rfl) h⟩))
  rw [nI_1]
  exact nI_le (Nat.le_refl _) (by omega)
theorem yc_deep {f q : Nat} (hT : T + 1 < 600) (hj : j < 200) (hh7 : hh < 700) (hf : f < 4) (hq : q < 300) (hv : a_value j = nI f) (hb : ¬ a_length f = 0) (h : post (f_place, nI (T + 1), nI hh, nI 12, 4, f_endTarget, 2, nI f, nI (q + 1), f_says, f_result, f_thrown, f_over, a_kind, a_up, a_length, a_value, a_below, a_open, a_token, a_height, a_target, upd a_phase T 2, a_how, a_kinds, a_worth, a_values, a_variables, upd a_begun T 0, a_output)) : wY_expression_23 post (nI j) 8 (nI 1) (nI 1) f_place (nI (T + 1)) (nI (hh + 1)) (nI 12) 0 f_endTarget f_endKind f_endWorth (nI q) f_says f_result f_thrown f_over a_kind a_up a_length a_value a_below a_open a_token a_height a_target a_phase a_how a_kinds a_worth a_values a_variables a_begun a_output := by
  refine yc_1 hT hj hh7 hv (yb_deep hf hb hq (br_t ?_ ⟨vp_in_nI (by omega) (by decide), nm_r (e' := upd a_begun T 0) (by rw [nI_clamp (by omega)]; rfl) h⟩))
  rw [nI_1]
  exact nI_le (Nat.le_refl _) (by omega)
theorem yc_go {f q w : Nat} (hT : T + 1 < 600) (hj : j < 200) (hh7 : hh < 700) (hf : f < 4) (hq : q < 300) (hw : w < 12) (hv : a_value j = nI f) (hb : ¬ a_length f = 0) (h : post (f_place, nI (T + 1 + 1), nI hh, nI (w + 1), 0, f_endTarget, f_endKind, f_endWorth, nI (q + 1), f_says, f_result, f_thrown, f_over, a_kind, a_up, a_length, a_value, a_below, a_open, upd a_token (T + 1) (nI (40 * f)), upd a_height (T + 1) (nI hh), a_target, upd (upd a_phase T 2) (T + 1) 0, a_how, a_kinds, a_worth, a_values, vset a_variables w (a_values hh), upd a_begun T 1, a_output)) : wY_expression_23 post (nI j) 8 (nI 1) (nI 1) f_place (nI (T + 1)) (nI (hh + 1)) (nI w) 0 f_endTarget f_endKind f_endWorth (nI q) f_says f_result f_thrown f_over a_kind a_up a_length a_value a_below a_open a_token a_height a_target a_phase a_how a_kinds a_worth a_values a_variables a_begun a_output := by
  refine yc_1 hT hj hh7 hv (yb_go hT hh7 hf hb hq hw (br_f ?_ ⟨vp_in_nI (by omega) (by decide), nm_r (e' := upd a_begun T 1) (by rw [nI_clamp (by omega)]; rfl) h⟩))
  rw [nI_1]
  exact nI_ge (by omega) (by omega)
theorem yr_in (h : wpY_returned post (f_place, f_top, f_held, f_depth, f_ended, f_endTarget, f_endKind, f_endWorth, f_steps, f_says, f_result, f_thrown, f_over, a_kind, a_up, a_length, a_value, a_below, a_open, a_token, a_height, a_target, a_phase, a_how, a_kinds, a_worth, a_values, a_variables, a_begun, a_output)) : wpY_expression post (f_place, f_top, f_held, f_depth, f_ended, f_endTarget, f_endKind, f_endWorth, f_steps, f_says, f_result, f_thrown, f_over, a_kind, a_up, a_length, a_value, a_below, a_open, a_token, a_height, a_target, a_phase, a_how, a_kinds, a_worth, a_values, a_variables, a_begun, a_output) (nI j) 8 (nI 2) := by
  unfold wpY_expression
  exact qy_op (tk_mk4 (n := 8) (m := 0) (by decide) (by decide)) (br_t rfl (br_t rfl h))
theorem yr_0 {w : Nat} (hT : T < 600) (hh7 : hh < 700) (eH : a_height T = nI hh) (eB : a_begun T = 1) (h : post (f_place, nI T, nI (hh + 1), nI w, 0, f_endTarget, f_endKind, f_endWorth, f_steps, f_says, f_result, f_thrown, f_over, a_kind, a_up, a_length, a_value, a_below, a_open, a_token, a_height, a_target, a_phase, a_how, a_kinds, a_worth, upd a_values hh 0, a_variables, a_begun, a_output)) : wpY_returned post (f_place, nI (T + 1), f_held, nI (w + 1), 0, f_endTarget, f_endKind, f_endWorth, f_steps, f_says, f_result, f_thrown, f_over, a_kind, a_up, a_length, a_value, a_below, a_open, a_token, a_height, a_target, a_phase, a_how, a_kinds, a_worth, a_values, a_variables, a_begun, a_output) := by
  have e : nI (T + 1) - 1 = nI T := nI_pred T
  refine ⟨by rw [e]; exact vp_in_nI hT (by decide), br_f (by rw [e, nI_clamp (by omega), eB]; decide) (nm_r (nI_pred w) ?_)⟩
  exact br_f (by decide) (br_f (by decide) (br_f (by decide) (yo_thr1 hT hh7 eH h)))
theorem yr_3 {w : Nat} (hT : T < 600) (hh7 : hh < 700) (eH : a_height T = nI hh) (eB : a_begun T = 1) (h : post (f_place, nI T, nI (hh + 1), nI w, 0, f_endTarget, f_endKind, f_endWorth, f_steps, f_says, f_result, f_thrown, f_over, a_kind, a_up, a_length, a_value, a_below, a_open, a_token, a_height, a_target, a_phase, a_how, a_kinds, a_worth, upd a_values hh f_endWorth, a_variables, a_begun, a_output)) : wpY_returned post (f_place, nI (T + 1), f_held, nI (w + 1), 3, f_endTarget, f_endKind, f_endWorth, f_steps, f_says, f_result, f_thrown, f_over, a_kind, a_up, a_length, a_value, a_below, a_open, a_token, a_height, a_target, a_phase, a_how, a_kinds, a_worth, a_values, a_variables, a_begun, a_output) := by
  have e : nI (T + 1) - 1 = nI T := nI_pred T
  refine ⟨by rw [e]; exact vp_in_nI hT (by decide), br_f (by rw [e, nI_clamp (by omega), eB]; decide) (nm_r (nI_pred w) ?_)⟩
  exact br_t rfl (br_f (by decide) (br_f (by decide) (yo_thr1 hT hh7 eH h)))
theorem yr_4 {w : Nat} (hT : T < 600) (eH : a_height T = nI hh) (eB : a_begun T = 1) (h : post (f_place, nI T, nI hh, nI w, 4, f_endTarget, f_endKind, f_endWorth, f_steps, f_says, f_result, f_thrown, f_over, a_kind, a_up, a_length, a_value, a_below, a_open, a_token, a_height, a_target, a_phase, a_how, a_kinds, a_worth, a_values, a_variables, a_begun, a_output)) : wpY_returned post (f_place, nI (T + 1), f_held, nI (w + 1), 4, f_endTarget, f_endKind, f_endWorth, f_steps, f_says, f_result, f_thrown, f_over, a_kind, a_up, a_length, a_value, a_below, a_open, a_token, a_height, a_target, a_phase, a_how, a_kinds, a_worth, a_values, a_variables, a_begun, a_output) := by
  have e : nI (T + 1) - 1 = nI T := nI_pred T
  refine ⟨by rw [e]; exact vp_in_nI hT (by decide), br_f (by rw [e, nI_clamp (by omega), eB]; decide) (nm_r (nI_pred w) ?_)⟩
  exact br_f (by decide) (br_t rfl (br_t rfl (yo_thr0 hT eH h)))
theorem yr_4n (hT : T < 600) (eH : a_height T = nI hh) (eB : a_begun T = 0) (h : post (f_place, nI T, nI hh, f_depth, 4, f_endTarget, f_endKind, f_endWorth, f_steps, f_says, f_result, f_thrown, f_over, a_kind, a_up, a_length, a_value, a_below, a_open, a_token, a_height, a_target, a_phase, a_how, a_kinds, a_worth, a_values, a_variables, a_begun, a_output)) : wpY_returned post (f_place, nI (T + 1), f_held, f_depth, 4, f_endTarget, f_endKind, f_endWorth, f_steps, f_says, f_result, f_thrown, f_over, a_kind, a_up, a_length, a_value, a_below, a_open, a_token, a_height, a_target, a_phase, a_how, a_kinds, a_worth, a_values, a_variables, a_begun, a_output) := by
  have e : nI (T + 1) - 1 = nI T := nI_pred T
  refine ⟨by rw [e]; exact vp_in_nI hT (by decide), br_t (by rw [e, nI_clamp (by omega), eB]) ?_⟩
  exact br_f (by decide) (br_t rfl (br_t rfl (yo_thr0 hT eH h)))
-- statements
theorem yt_skip (hT : T < 600) (eH : a_height T = nI hh) (h : post (f_place, nI T, nI hh, f_depth, f_ended, f_endTarget, f_endKind, f_endWorth, f_steps, f_says, f_result, f_thrown, f_over, a_kind, a_up, a_length, a_value, a_below, a_open, a_token, a_height, a_target, a_phase, a_how, a_kinds, a_worth, a_values, a_variables, a_begun, a_output)) : wpY_statement post (f_place, nI (T + 1), f_held, f_depth, f_ended, f_endTarget, f_endKind, f_endWorth, f_steps, f_says, f_result, f_thrown, f_over, a_kind, a_up, a_length, a_value, a_below, a_open, a_token, a_height, a_target, a_phase, a_how, a_kinds, a_worth, a_values, a_variables, a_begun, a_output) (nI j) 15 (nI 0) := by
  have g : wpY_through post (f_place, nI (T + 1), f_held, f_depth, f_ended, f_endTarget, f_endKind, f_endWorth, f_steps, f_says, f_result, f_thrown, f_over, a_kind, a_up, a_length, a_value, a_below, a_open, a_token, a_height, a_target, a_phase, a_how, a_kinds, a_worth, a_values, a_variables, a_begun, a_output) 0 0 := yo_thr0 hT eH h
  (repeat (first | exact g | refine br_t (by decide) ?_ | refine br_f (by decide) ?_))
theorem yt_first (P : pg_T K V Z a_up a_below LN) (hr : r < 4) (hi : i < LN r) (hT : T + 1 < 600) (hh7 : hh < 700) (eT : a_token T = nI (40 * r + i)) (ho : 0 < tk_np (K (40 * r + i)) (V (40 * r + i))) (h : post (f_place, nI (T + 1 + 1), nI hh, f_depth, 0, f_endTarget, f_endKind, f_endWorth, f_steps, f_says, f_result, f_thrown, f_over, a_kind, a_up, a_length, a_value, a_below, a_open, upd a_token (T + 1) (nI (40 * r + tr_ca (ro Z r) i 0)), upd a_height (T + 1) (nI hh), a_target, upd (upd a_phase T 1) (T + 1) 0, a_how, a_kinds, a_worth, a_values, a_variables, a_begun, a_output)) {k : Int32} (hk : k = 10 ∨ k = 11 ∨ k = 12 ∨ k = 14 ∨ k = 16 ∨ k = 18 ∨ k = 21) : wpY_statement post (f_place, nI (T + 1), nI hh, f_depth, f_ended, f_endTarget, f_endKind, f_endWorth, f_steps, f_says, f_result, f_thrown, f_over, a_kind, a_up, a_length, a_value, a_below, a_open, a_token, a_height, a_target, a_phase, a_how, a_kinds, a_worth, a_values, a_variables, a_begun, a_output) (nI j) k (nI 0) := by
  have g : wpY_operand post (f_place, nI (T + 1), nI hh, f_depth, f_ended, f_endTarget, f_endKind, f_endWorth, f_steps, f_says, f_result, f_thrown, f_over, a_kind, a_up, a_length, a_value, a_below, a_open, a_token, a_height, a_target, a_phase, a_how, a_kinds, a_worth, a_values, a_variables, a_begun, a_output) (nI 0) := yo_op P hr hi hT hh7 eT ho h
  rcases hk with rfl | rfl | rfl | rfl | rfl | rfl | rfl <;> (repeat (first | exact g | refine br_t (by decide) ?_ | refine br_f (by decide) ?_))
theorem yt_seq (P : pg_T K V Z a_up a_below LN) (hr : r < 4) (hi : i < LN r) (hT : T + 1 < 600) (hh7 : hh < 700) (eT : a_token T = nI (40 * r + i)) (ho : 1 < tk_np (K (40 * r + i)) (V (40 * r + i))) (h : post (f_place, nI (T + 1 + 1), nI hh, f_depth, 0, f_endTarget, f_endKind, f_endWorth, f_steps, f_says, f_result, f_thrown, f_over, a_kind, a_up, a_length, a_value, a_below, a_open, upd a_token (T + 1) (nI (40 * r + tr_ca (ro Z r) i 1)), upd a_height (T + 1) (nI hh), a_target, upd (upd a_phase T 2) (T + 1) 0, a_how, a_kinds, a_worth, a_values, a_variables, a_begun, a_output)) : wpY_statement post (f_place, nI (T + 1), nI hh, f_depth, 0, f_endTarget, f_endKind, f_endWorth, f_steps, f_says, f_result, f_thrown, f_over, a_kind, a_up, a_length, a_value, a_below, a_open, a_token, a_height, a_target, a_phase, a_how, a_kinds, a_worth, a_values, a_variables, a_begun, a_output) (nI j) 14 (nI 1) := by
  have g : wpY_operand post (f_place, nI (T + 1), nI hh, f_depth, 0, f_endTarget, f_endKind, f_endWorth, f_steps, f_says, f_result, f_thrown, f_over, a_kind, a_up, a_length, a_value, a_below, a_open, a_token, a_height, a_target, a_phase, a_how, a_kinds, a_worth, a_values, a_variables, a_begun, a_output) (nI 1) := yo_op P hr hi hT hh7 eT ho h
  (repeat (first | exact g | refine br_t (by decide) ?_ | refine br_f (by decide) ?_))
theorem yt_if (P : pg_T K V Z a_up a_below LN) (hr : r < 4) (hi : i < LN r) (hT : T + 1 < 600) (hh7 : hh < 700) (eT : a_token T = nI (40 * r + i)) {o : Nat} (eo : o = if a_values hh = 0 then 2 else 1) (ho : o < tk_np (K (40 * r + i)) (V (40 * r + i))) (h : post (f_place, nI (T + 1 + 1), nI hh, f_depth, 0, f_endTarget, f_endKind, f_endWorth, f_steps, f_says, f_result, f_thrown, f_over, a_kind, a_up, a_length, a_value, a_below, a_open, upd a_token (T + 1) (nI (40 * r + tr_ca (ro Z r) i o)), upd a_height (T + 1) (nI hh), a_target, upd (upd a_phase T (nI (o + 1))) (T + 1) 0, a_how, a_kinds, a_worth, a_values, a_variables, a_begun, a_output)) : wpY_statement post (f_place, nI (T + 1), nI (hh + 1), f_depth, 0, f_endTarget, f_endKind, f_endWorth, f_steps, f_says, f_result, f_thrown, f_over, a_kind, a_up, a_length, a_value, a_below, a_open, a_token, a_height, a_target, a_phase, a_how, a_kinds, a_worth, a_values, a_variables, a_begun, a_output) (nI j) 12 (nI 1) := by
  have g : wpY_operand post (f_place, nI (T + 1), nI hh, f_depth, 0, f_endTarget, f_endKind, f_endWorth, f_steps, f_says, f_result, f_thrown, f_over, a_kind, a_up, a_length, a_value, a_below, a_open, a_token, a_height, a_target, a_phase, a_how, a_kinds, a_worth, a_values, a_variables, a_begun, a_output) (nI o) := yo_op P hr hi hT hh7 eT ho h
  have e1 : nI (hh + 1) - 1 = nI hh := nI_pred hh
  have k : ∀ x : Int32, x = a_values hh → ((x = 0 → wY_statement_179 post 2 f_place (nI (T + 1)) (nI hh) f_depth 0 f_endTarget f_endKind f_endWorth f_steps f_says f_result f_thrown f_over a_kind a_up a_length a_value a_below a_open a_token a_height a_target a_phase a_how a_kinds a_worth a_values a_variables a_begun a_output) ∧ (¬ x = 0 → wY_statement_179 post 1 f_place (nI (T + 1)) (nI hh) f_depth 0 f_endTarget f_endKind f_endWorth f_steps f_says f_result f_thrown f_over a_kind a_up a_length a_value a_below a_open a_token a_height a_target a_phase a_how a_kinds a_worth a_values a_variables a_begun a_output)) := by
    intro x ex
    subst ex
    refine br_c (fun z => ?_) (fun z => ?_)
    · rw [if_pos z] at eo
      subst eo
      exact g
    · rw [if_neg z] at eo
      subst eo
      exact g
  refine br_f (by decide) (br_t rfl (br_f (by decide) (br_f (by decide) (br_f (by decide) (br_f (by decide) (br_f (by decide) (br_t rfl (br_t rfl (br_f (by decide) (nm_r e1 ⟨by rw [e1]; exact vp_in_nI hh7 (by decide), nm_r (e' := a_values hh) (by rw [e1, nI_clamp (by omega)]) (k _ rfl)⟩))))))))))
theorem yt_out (hT : T < 600) (eH : a_height T = nI hh) (h : post (f_place, nI T, nI hh, f_depth, f_ended, f_endTarget, f_endKind, f_endWorth, f_steps, f_says, f_result, f_thrown, f_over, a_kind, a_up, a_length, a_value, a_below, a_open, a_token, a_height, a_target, a_phase, a_how, a_kinds, a_worth, a_values, a_variables, a_begun, a_output)) {k : Int32} (hk : k = 10 ∨ k = 11 ∨ k = 12 ∨ k = 14 ∨ k = 16 ∨ k = 18 ∨ k = 21) (hy : y = 1 ∨ y = 2 ∨ y = 3) (he : ¬ f_ended = 0) : wpY_statement post (f_place, nI (T + 1), f_held, f_depth, f_ended, f_endTarget, f_endKind, f_endWorth, f_steps, f_says, f_result, f_thrown, f_over, a_kind, a_up, a_length, a_value, a_below, a_open, a_token, a_height, a_target, a_phase, a_how, a_kinds, a_worth, a_values, a_variables, a_begun, a_output) (nI j) k (nI y) := by
  have g : wpY_through post (f_place, nI (T + 1), f_held, f_depth, f_ended, f_endTarget, f_endKind, f_endWorth, f_steps, f_says, f_result, f_thrown, f_over, a_kind, a_up, a_length, a_value, a_below, a_open, a_token, a_height, a_target, a_phase, a_how, a_kinds, a_worth, a_values, a_variables, a_begun, a_output) 0 0 := yo_thr0 hT eH h
  rcases hk with rfl | rfl | rfl | rfl | rfl | rfl | rfl <;> rcases hy with rfl | rfl | rfl <;> (repeat (first | exact g | refine br_t (by decide) ?_ | refine br_f (by decide) ?_ | refine br_f he ?_))
theorem yt_end (hT : T < 600) (eH : a_height T = nI hh) (h : post (f_place, nI T, nI hh, f_depth, 0, f_endTarget, f_endKind, f_endWorth, f_steps, f_says, f_result, f_thrown, f_over, a_kind, a_up, a_length, a_value, a_below, a_open, a_token, a_height, a_target, a_phase, a_how, a_kinds, a_worth, a_values, a_variables, a_begun, a_output)) {k : Int32} (hk : (k = 12 ∧ (y = 2 ∨ y = 3)) ∨ (k = 14 ∧ y = 2) ∨ (k = 18 ∧ y = 1)) : wpY_statement post (f_place, nI (T + 1), f_held, f_depth, 0, f_endTarget, f_endKind, f_endWorth, f_steps, f_says, f_result, f_thrown, f_over, a_kind, a_up, a_length, a_value, a_below, a_open, a_token, a_height, a_target, a_phase, a_how, a_kinds, a_worth, a_values, a_variables, a_begun, a_output) (nI j) k (nI y) := by
  have g : wpY_through post (f_place, nI (T + 1), f_held, f_depth, 0, f_endTarget, f_endKind, f_endWorth, f_steps, f_says, f_result, f_thrown, f_over, a_kind, a_up, a_length, a_value, a_below, a_open, a_token, a_height, a_target, a_phase, a_how, a_kinds, a_worth, a_values, a_variables, a_begun, a_output) 0 0 := yo_thr0 hT eH h
  rcases hk with ⟨rfl, rfl | rfl⟩ | ⟨rfl, rfl⟩ | ⟨rfl, rfl⟩ <;> (repeat (first | exact g | refine br_t (by decide) ?_ | refine br_f (by decide) ?_))
theorem yt_use {k : Int32} (hk : k = 10 ∨ k = 11 ∨ k = 16 ∨ k = 21) (hj : j < 200) (hh7 : hh < 700) (h : wpY_use (fun u => match u with
    | (f_place, f_top, f_held, f_depth, f_ended, f_endTarget, f_endKind, f_endWorth, f_steps, f_says, f_result, f_thrown, f_over, a_kind, a_up, a_length, a_value, a_below, a_open, a_token, a_height, a_target, a_phase, a_how, a_kinds, a_worth, a_values, a_variables, a_begun, a_output) => wY_statement_230 post f_place f_top f_held f_depth f_ended f_endTarget f_endKind f_endWorth f_steps f_says f_result f_thrown f_over a_kind a_up a_length a_value a_below a_open a_token a_height a_target a_phase a_how a_kinds a_worth a_values a_variables a_begun a_output) (f_place, f_top, nI (hh + 1), f_depth, 0, f_endTarget, f_endKind, f_endWorth, f_steps, f_says, f_result, f_thrown, f_over, a_kind, a_up, a_length, a_value, a_below, a_open, a_token, a_height, a_target, a_phase, a_how, a_kinds, a_worth, a_values, a_variables, a_begun, a_output) k (a_value j) (a_values hh)) : wpY_statement post (f_place, f_top, nI (hh + 1), f_depth, 0, f_endTarget, f_endKind, f_endWorth, f_steps, f_says, f_result, f_thrown, f_over, a_kind, a_up, a_length, a_value, a_below, a_open, a_token, a_height, a_target, a_phase, a_how, a_kinds, a_worth, a_values, a_variables, a_begun, a_output) (nI j) k (nI 1) := by
  have e1 : nI (hh + 1) - 1 = nI hh := nI_pred hh
  have g : wY_statement_185 post (nI j) k 1 f_place f_top (nI (hh + 1)) f_depth 0 f_endTarget f_endKind f_endWorth f_steps f_says f_result f_thrown f_over a_kind a_up a_length a_value a_below a_open a_token a_height a_target a_phase a_how a_kinds a_worth a_values a_variables a_begun a_output := by
    refine br_f (by decide) (br_f (by rcases hk with rfl | rfl | rfl | rfl <;> decide) (br_f (by rcases hk with rfl | rfl | rfl | rfl <;> decide) (br_f (by rcases hk with rfl | rfl | rfl | rfl <;> decide) ⟨vp_in_nI hj (by decide), by rw [e1]; exact vp_in_nI hh7 (by decide), ?_⟩)))
    rw [e1, nI_clamp (n := hh) (by omega), nI_clamp (n := j) (by omega)]
    exact h
  rcases hk with rfl | rfl | rfl | rfl <;> (repeat (first | exact g | refine br_t (by decide) ?_ | refine br_f (by decide) ?_))
theorem yu_set {w mm : Nat} {x v : Int32} (hm : mm < 6) (w1 : 1 ≤ w) (w12 : w ≤ 12) (hv : v = nI mm) (g : post (f_place, f_top, f_held, nI w, f_ended, f_endTarget, f_endKind, f_endWorth, f_steps, f_says, f_result, f_thrown, f_over, a_kind, a_up, a_length, a_value, a_below, a_open, a_token, a_height, a_target, a_phase, a_how, a_kinds, a_worth, a_values, upd a_variables (6 * (w - 1) + mm) x, a_begun, a_output)) : wpY_use post (f_place, f_top, f_held, nI w, f_ended, f_endTarget, f_endKind, f_endWorth, f_steps, f_says, f_result, f_thrown, f_over, a_kind, a_up, a_length, a_value, a_below, a_open, a_token, a_height, a_target, a_phase, a_how, a_kinds, a_worth, a_values, a_variables, a_begun, a_output) 10 v x := by
  subst hv
  refine br_t rfl ⟨by rw [vy_ix w1]; exact vp_in_nI (by omega) (by decide), nm_r (e' := upd a_variables (6 * (w - 1) + mm) x) (by rw [vy_ix w1, nI_clamp (by omega)]) ?_⟩
  (repeat (first | exact g | refine br_t (by decide) ?_ | refine br_f (by decide) ?_))
theorem yu_say {s : Nat} {x v : Int32} (hs : s < 2000000) (g : post (f_place, f_top, f_held, f_depth, f_ended, f_endTarget, f_endKind, f_endWorth, f_steps, nI (s + 1), f_result, f_thrown, f_over, a_kind, a_up, a_length, a_value, a_below, a_open, a_token, a_height, a_target, a_phase, a_how, a_kinds, a_worth, a_values, a_variables, a_begun, if s < 40 then upd a_output s x else a_output)) : wpY_use post (f_place, f_top, f_held, f_depth, f_ended, f_endTarget, f_endKind, f_endWorth, f_steps, nI s, f_result, f_thrown, f_over, a_kind, a_up, a_length, a_value, a_below, a_open, a_token, a_height, a_target, a_phase, a_how, a_kinds, a_worth, a_values, a_variables, a_begun, a_output) 11 v x := by
  refine br_f (by decide) (br_t rfl ?_)
  by_cases h40 : s < 40
  · rw [if_pos h40] at g
    refine br_f (nI_ge (b := 40) h40 (by decide)) ⟨vp_in_nI h40 (by decide), nm_r (e' := upd a_output s x) (by rw [nI_clamp (by omega)]) (br_t rfl (nm_r (nI_1 s) ?_))⟩
    (repeat (first | exact g | refine br_t (by decide) ?_ | refine br_f (by decide) ?_))
  · rw [if_neg h40] at g
    refine br_t (nI_le (a := 40) (by omega) (by omega)) (br_t rfl (nm_r (nI_1 s) ?_))
    (repeat (first | exact g | refine br_t (by decide) ?_ | refine br_f (by decide) ?_))
theorem yu_throw {x v : Int32} (g : post (f_place, f_top, f_held, f_depth, 4, f_endTarget, v, x, f_steps, f_says, f_result, f_thrown, f_over, a_kind, a_up, a_length, a_value, a_below, a_open, a_token, a_height, a_target, a_phase, a_how, a_kinds, a_worth, a_values, a_variables, a_begun, a_output)) : wpY_use post (f_place, f_top, f_held, f_depth, f_ended, f_endTarget, f_endKind, f_endWorth, f_steps, f_says, f_result, f_thrown, f_over, a_kind, a_up, a_length, a_value, a_below, a_open, a_token, a_height, a_target, a_phase, a_how, a_kinds, a_worth, a_values, a_variables, a_begun, a_output) 16 v x := by
  (repeat (first | exact g | refine br_t (by decide) ?_ | refine br_f (by decide) ?_))
theorem yu_ret {x v : Int32} (g : post (f_place, f_top, f_held, f_depth, 3, f_endTarget, f_endKind, x, f_steps, f_says, f_result, f_thrown, f_over, a_kind, a_up, a_length, a_value, a_below, a_open, a_token, a_height, a_target, a_phase, a_how, a_kinds, a_worth, a_values, a_variables, a_begun, a_output)) : wpY_use post (f_place, f_top, f_held, f_depth, f_ended, f_endTarget, f_endKind, f_endWorth, f_steps, f_says, f_result, f_thrown, f_over, a_kind, a_up, a_length, a_value, a_below, a_open, a_token, a_height, a_target, a_phase, a_how, a_kinds, a_worth, a_values, a_variables, a_begun, a_output) 21 v x := by
  (repeat (first | exact g | refine br_t (by decide) ?_ | refine br_f (by decide) ?_))
theorem yt_jump (P : pg_T K V Z a_up a_below LN) (E : pg_E K V a_kind a_value LN) (hr : r < 4) (hi : i < LN r) (hT : T < 600) (eH : a_height T = nI hh) {k : Int32} (hk : k = 19 ∨ k = 20) {p t : Nat} (eu : a_up (40 * r + i) = nI p) (hp : p < i) (hN : tr_NL (ro K r) (ro V r) (ro a_up r) (V (40 * r + i)) p t) (h : post (f_place, nI T, nI hh, f_depth, if k = 19 then 1 else 2, nI (40 * r + t), f_endKind, 0, f_steps, f_says, f_result, f_thrown, f_over, a_kind, a_up, a_length, a_value, a_below, a_open, a_token, a_height, a_target, a_phase, a_how, a_kinds, a_worth, a_values, a_variables, a_begun, a_output)) : wpY_statement post (f_place, nI (T + 1), f_held, f_depth, f_ended, f_endTarget, f_endKind, f_endWorth, f_steps, f_says, f_result, f_thrown, f_over, a_kind, a_up, a_length, a_value, a_below, a_open, a_token, a_height, a_target, a_phase, a_how, a_kinds, a_worth, a_values, a_variables, a_begun, a_output) (nI (40 * r + i)) k (nI 0) := by
  have hL := (P r hr (by omega)).2.1
  have ht := (tr_NL_le hN).1
  have ed : nI (40 * r + i) / 40 = nI r := by
    rw [show nI (40 * r + i) / 40 = nI ((40 * r + i) / 40) from pk_div (d := 40) (by omega) (by omega) (by omega)]
    exact congrArg nI (by omega)
  have em : nI (40 * r + i) - nI (40 * r + i) / 40 * 40 = nI i := by
    rw [show nI (40 * r + i) - nI (40 * r + i) / 40 * 40 = nI ((40 * r + i) % 40) from pk_rem (d := 40) (by omega) (by omega) (by omega)]
    exact congrArg nI (by omega)
  have e2 : nI r * 40 + nI t = nI (40 * r + t) := by
    rw [show nI r * 40 = nI (r * 40) from pk_mul r 40, nI_add]
    exact congrArg nI (by omega)
  have g : wY_statement_45 post (nI (40 * r + i)) k f_place (nI (T + 1)) f_held f_depth f_ended f_endTarget f_endKind f_endWorth f_steps f_says f_result f_thrown f_over a_kind a_up a_length a_value a_below a_open a_token a_height a_target a_phase a_how a_kinds a_worth a_values a_variables a_begun a_output := by
    refine ⟨by decide, by decide, ?_⟩
    rw [em, ed]
    have ekk : (40 : Int32) * nI r + nI i = nI (40 * r + i) := by rw [show (40 : Int32) * nI r = nI (40 * r) from pk_mul 40 r, nI_add]
    refine ⟨by rw [ekk]; exact vp_in_nI (by omega) (by decide), nm_r (e' := nI p) (by rw [ekk, nI_clamp (by omega), eu]) ?_⟩
    obtain ⟨nn, hn⟩ := hN
    refine ⟨nn, qy_12t (k := ro K r) (v := ro V r) (u := ro a_up r) (L := LN r) (by omega) hL (fun i hi => (E r hr i hi).1) (fun i hi => (E r hr i hi).2) (fun _ _ => rfl) hi nn p t (by omega) hn ?_⟩
    refine yo_thr0 hT eH ?_
    rcases hk with rfl | rfl
    · refine br_t rfl ⟨by decide, nm_r (e' := nI (40 * r + t)) (by rw [ed, e2]) ?_⟩
      exact h
    · refine br_f (by decide) ⟨by decide, nm_r (e' := nI (40 * r + t)) (by rw [ed, e2]) ?_⟩
      exact h
  rcases hk with rfl | rfl <;> (repeat (first | exact g | refine br_t (by decide) ?_ | refine br_f (by decide) ?_))
end
end
section
theorem tk_cn_le (v : Int32) : tk_cn v ≤ 2 := by
  unfold tk_cn
  repeat' split
  all_goals omega
section
variable {f_place f_top f_held f_depth f_ended f_endTarget f_endKind f_endWorth f_steps f_says f_result f_thrown f_over : Int32} {a_kind a_up a_length a_value a_below a_open a_token a_height a_target a_phase a_how a_kinds a_worth a_values a_variables a_begun a_output : Nat → Int32} {post : SY → Prop} {T j y r i hh : Nat} {K V Z : Nat → Int32} {LN : Nat → Nat}
theorem yq_step (P : pg_T K V Z a_up a_below LN) (hr : r < 4) (hi : i < LN r) {q : Nat} (hq : q < 300) (hT : T + 1 < 600) (hh7 : hh < 700) (eT : a_token T = nI (40 * r + i)) (ho : 0 < tk_np (K (40 * r + i)) (V (40 * r + i))) (h : post (f_place, nI (T + 1 + 1), nI hh, f_depth, 0, f_endTarget, f_endKind, f_endWorth, nI (q + 1), f_says, f_result, f_thrown, f_over, a_kind, a_up, a_length, a_value, a_below, a_open, upd a_token (T + 1) (nI (40 * r + tr_ca (ro Z r) i 0)), upd a_height (T + 1) (nI hh), a_target, upd (upd a_phase T 1) (T + 1) 0, a_how, a_kinds, a_worth, a_values, a_variables, a_begun, a_output)) : wY_repeat_58 post f_place (nI (T + 1)) (nI hh) f_depth f_ended f_endTarget f_endKind f_endWorth (nI q) f_says f_result f_thrown f_over a_kind a_up a_length a_value a_below a_open a_token a_height a_target a_phase a_how a_kinds a_worth a_values a_variables a_begun a_output := by
  have g : wpY_operand post (f_place, nI (T + 1), nI hh, f_depth, f_ended, f_endTarget, f_endKind, f_endWorth, nI (q + 1), f_says, f_result, f_thrown, f_over, a_kind, a_up, a_length, a_value, a_below, a_open, a_token, a_height, a_target, a_phase, a_how, a_kinds, a_worth, a_values, a_variables, a_begun, a_output) (nI 0) := yo_op P hr hi hT hh7 eT ho h
  exact br_f (ne_300 hq) (nm_r (nI_1 q) (br_f (by decide) g))
theorem yq_over (h : post (f_place, f_top, f_held, f_depth, f_ended, f_endTarget, f_endKind, f_endWorth, nI 300, f_says, f_result, f_thrown, 1, a_kind, a_up, a_length, a_value, a_below, a_open, a_token, a_height, a_target, a_phase, a_how, a_kinds, a_worth, a_values, a_variables, a_begun, a_output)) : wY_repeat_58 post f_place f_top f_held f_depth f_ended f_endTarget f_endKind f_endWorth (nI 300) f_says f_result f_thrown f_over a_kind a_up a_length a_value a_below a_open a_token a_height a_target a_phase a_how a_kinds a_worth a_values a_variables a_begun a_output := br_t rfl (br_t rfl h)
theorem yq_0 (h : wY_repeat_58 post f_place f_top f_held f_depth 0 f_endTarget f_endKind f_endWorth f_steps f_says f_result f_thrown f_over a_kind a_up a_length a_value a_below a_open a_token a_height a_target a_phase a_how a_kinds a_worth a_values a_variables a_begun a_output) : wpY_repeat post (f_place, f_top, f_held, f_depth, 0, f_endTarget, f_endKind, f_endWorth, f_steps, f_says, f_result, f_thrown, f_over, a_kind, a_up, a_length, a_value, a_below, a_open, a_token, a_height, a_target, a_phase, a_how, a_kinds, a_worth, a_values, a_variables, a_begun, a_output) (nI j) (nI 0) := br_f (by decide) (br_f (by decide) (br_t rfl h))
theorem yq_2n (h : wY_repeat_58 post f_place f_top f_held f_depth 0 f_endTarget f_endKind f_endWorth f_steps f_says f_result f_thrown f_over a_kind a_up a_length a_value a_below a_open a_token a_height a_target a_phase a_how a_kinds a_worth a_values a_variables a_begun a_output) : wpY_repeat post (f_place, f_top, f_held, f_depth, 0, f_endTarget, f_endKind, f_endWorth, f_steps, f_says, f_result, f_thrown, f_over, a_kind, a_up, a_length, a_value, a_below, a_open, a_token, a_height, a_target, a_phase, a_how, a_kinds, a_worth, a_values, a_variables, a_begun, a_output) (nI j) (nI 2) := br_f (by decide) (br_f (by decide) (br_f (by decide) (br_t rfl (br_t rfl h))))
theorem yq_2c (h : wY_repeat_58 post f_place f_top f_held f_depth 2 (nI j) f_endKind f_endWorth f_steps f_says f_result f_thrown f_over a_kind a_up a_length a_value a_below a_open a_token a_height a_target a_phase a_how a_kinds a_worth a_values a_variables a_begun a_output) : wpY_repeat post (f_place, f_top, f_held, f_depth, 2, nI j, f_endKind, f_endWorth, f_steps, f_says, f_result, f_thrown, f_over, a_kind, a_up, a_length, a_value, a_below, a_open, a_token, a_height, a_target, a_phase, a_how, a_kinds, a_worth, a_values, a_variables, a_begun, a_output) (nI j) (nI 2) := br_f (by decide) (br_t rfl (br_t rfl (br_f (by decide) (br_t rfl (br_f (by decide) (br_f (by decide) (br_t rfl h)))))))
theorem yq_2b (hT : T < 600) (eH : a_height T = nI hh) (h : post (f_place, nI T, nI hh, f_depth, 0, nI j, f_endKind, f_endWorth, f_steps, f_says, f_result, f_thrown, f_over, a_kind, a_up, a_length, a_value, a_below, a_open, a_token, a_height, a_target, a_phase, a_how, a_kinds, a_worth, a_values, a_variables, a_begun, a_output)) : wpY_repeat post (f_place, nI (T + 1), f_held, f_depth, 1, nI j, f_endKind, f_endWorth, f_steps, f_says, f_result, f_thrown, f_over, a_kind, a_up, a_length, a_value, a_below, a_open, a_token, a_height, a_target, a_phase, a_how, a_kinds, a_worth, a_values, a_variables, a_begun, a_output) (nI j) (nI 2) :=
  br_t rfl (br_t rfl (br_f (by decide) (br_t rfl (br_f (by decide) (br_f (by decide) (br_f (by decide) (br_f (by decide) (yo_thr0 hT eH (br_f (by decide) h)))))))))
theorem yq_out (hT : T < 600) (eH : a_height T = nI hh) (hy : y = 1 ∨ y = 2) (he : ¬ f_ended = 0) (ht : (f_ended = 1 ∨ f_ended = 2) → ¬ f_endTarget = nI j) (h : post (f_place, nI T, nI hh, f_depth, f_ended, f_endTarget, f_endKind, f_endWorth, f_steps, f_says, f_result, f_thrown, f_over, a_kind, a_up, a_length, a_value, a_below, a_open, a_token, a_height, a_target, a_phase, a_how, a_kinds, a_worth, a_values, a_variables, a_begun, a_output)) : wpY_repeat post (f_place, nI (T + 1), f_held, f_depth, f_ended, f_endTarget, f_endKind, f_endWorth, f_steps, f_says, f_result, f_thrown, f_over, a_kind, a_up, a_length, a_value, a_below, a_open, a_token, a_height, a_target, a_phase, a_how, a_kinds, a_worth, a_values, a_variables, a_begun, a_output) (nI j) (nI y) := by
  have g : wY_repeat_129 post 0 f_place (nI (T + 1)) f_held f_depth f_ended f_endTarget f_endKind f_endWorth f_steps f_says f_result f_thrown f_over a_kind a_up a_length a_value a_below a_open a_token a_height a_target a_phase a_how a_kinds a_worth a_values a_variables a_begun a_output := yo_thr0 hT eH (br_t rfl h)
  have g2 : wY_repeat_28 post (nI y) f_place (nI (T + 1)) f_held f_depth f_ended f_endTarget f_endKind f_endWorth f_steps f_says f_result f_thrown f_over a_kind a_up a_length a_value a_below a_open a_token a_height a_target a_phase a_how a_kinds a_worth a_values a_variables a_begun a_output := by
    rcases hy with rfl | rfl
    · exact br_f (by decide) (br_f (by decide) (br_t rfl (br_f he g)))
    · exact br_f (by decide) (br_t rfl (br_f he (br_t rfl (br_f (by decide) g))))
  exact br_c (fun z => br_f (ht (Or.inl z)) g2) (fun _ => br_c (fun z => br_f (ht (Or.inr z)) g2) (fun _ => g2))
theorem yq_1z (hT : T < 600) (hh7 : hh < 700) {h0 : Nat} (eH : a_height T = nI h0) (hv : a_values hh = 0) (h : post (f_place, nI T, nI h0, f_depth, 0, f_endTarget, f_endKind, f_endWorth, f_steps, f_says, f_result, f_thrown, f_over, a_kind, a_up, a_length, a_value, a_below, a_open, a_token, a_height, a_target, a_phase, a_how, a_kinds, a_worth, a_values, a_variables, a_begun, a_output)) : wpY_repeat post (f_place, nI (T + 1), nI (hh + 1), f_depth, 0, f_endTarget, f_endKind, f_endWorth, f_steps, f_says, f_result, f_thrown, f_over, a_kind, a_up, a_length, a_value, a_below, a_open, a_token, a_height, a_target, a_phase, a_how, a_kinds, a_worth, a_values, a_variables, a_begun, a_output) (nI j) (nI 1) := by
  have e1 : nI (hh + 1) - 1 = nI hh := nI_pred hh
  have g : wpY_through post (f_place, nI (T + 1), nI hh, f_depth, 0, f_endTarget, f_endKind, f_endWorth, f_steps, f_says, f_result, f_thrown, f_over, a_kind, a_up, a_length, a_value, a_below, a_open, a_token, a_height, a_target, a_phase, a_how, a_kinds, a_worth, a_values, a_variables, a_begun, a_output) 0 0 := yo_thr0 hT eH h
  exact br_f (by decide) (br_f (by decide) (br_f (by decide) (br_f (by decide) (br_t rfl (br_t rfl (nm_r e1 ⟨by rw [e1]; exact vp_in_nI hh7 (by decide), nm_r (e' := a_values hh) (by rw [e1, nI_clamp (by omega)]) (br_t hv g)⟩))))))
theorem yq_1g (P : pg_T K V Z a_up a_below LN) (hr : r < 4) (hi : i < LN r) (hT : T + 1 < 600) (hh7 : hh < 700) (eT : a_token T = nI (40 * r + i)) (ho : 1 < tk_np (K (40 * r + i)) (V (40 * r + i))) (hv : ¬ a_values hh = 0) (h : post (f_place, nI (T + 1 + 1), nI hh, f_depth, 0, f_endTarget, f_endKind, f_endWorth, f_steps, f_says, f_result, f_thrown, f_over, a_kind, a_up, a_length, a_value, a_below, a_open, upd a_token (T + 1) (nI (40 * r + tr_ca (ro Z r) i 1)), upd a_height (T + 1) (nI hh), a_target, upd (upd a_phase T 2) (T + 1) 0, a_how, a_kinds, a_worth, a_values, a_variables, a_begun, a_output)) : wpY_repeat post (f_place, nI (T + 1), nI (hh + 1), f_depth, 0, f_endTarget, f_endKind, f_endWorth, f_steps, f_says, f_result, f_thrown, f_over, a_kind, a_up, a_length, a_value, a_below, a_open, a_token, a_height, a_target, a_phase, a_how, a_kinds, a_worth, a_values, a_variables, a_begun, a_output) (nI j) (nI 1) := by
  have e1 : nI (hh + 1) - 1 = nI hh := nI_pred hh
  have g : wpY_operand post (f_place, nI (T + 1), nI hh, f_depth, 0, f_endTarget, f_endKind, f_endWorth, f_steps, f_says, f_result, f_thrown, f_over, a_kind, a_up, a_length, a_value, a_below, a_open, a_token, a_height, a_target, a_phase, a_how, a_kinds, a_worth, a_values, a_variables, a_begun, a_output) (nI 1) := yo_op P hr hi hT hh7 eT ho h
  exact br_f (by decide) (br_f (by decide) (br_f (by decide) (br_f (by decide) (br_t rfl (br_t rfl (nm_r e1 ⟨by rw [e1]; exact vp_in_nI hh7 (by decide), nm_r (e' := a_values hh) (by rw [e1, nI_clamp (by omega)]) (br_f hv g)⟩))))))
-- attempt
theorem yz_cn {v : Int32} (hk : tk_ok 17 v) : v &&& 3 = nI (tk_cn v) ∧ ((v ≤ 3 ∧ tk_fn v = 0) ∨ (¬ v ≤ 3 ∧ tk_fn v = 1)) := by
  rcases tk_try hk with rfl | rfl | rfl | rfl | rfl <;> decide
theorem yz_0 (P : pg_T K V Z a_up a_below LN) (E : pg_E K V a_kind a_value LN) (hr : r < 4) (hi : i < LN r) (hT : T + 1 < 600) (hh7 : hh < 700) (eT : a_token T = nI (40 * r + i)) (ho : 0 < tk_np (K (40 * r + i)) (V (40 * r + i))) (h : post (f_place, nI (T + 1 + 1), nI hh, f_depth, 0, f_endTarget, f_endKind, f_endWorth, f_steps, f_says, f_result, f_thrown, f_over, a_kind, a_up, a_length, a_value, a_below, a_open, upd a_token (T + 1) (nI (40 * r + tr_ca (ro Z r) i 0)), upd a_height (T + 1) (nI hh), a_target, upd (upd a_phase T 1) (T + 1) 0, a_how, a_kinds, a_worth, a_values, a_variables, a_begun, a_output)) : wpY_attempt post (f_place, nI (T + 1), nI hh, f_depth, f_ended, f_endTarget, f_endKind, f_endWorth, f_steps, f_says, f_result, f_thrown, f_over, a_kind, a_up, a_length, a_value, a_below, a_open, a_token, a_height, a_target, a_phase, a_how, a_kinds, a_worth, a_values, a_variables, a_begun, a_output) (nI (40 * r + i)) (nI 0) := by
  obtain ⟨_, hj, _⟩ := pg_tok P hr hi
  have g : wpY_operand post (f_place, nI (T + 1), nI hh, f_depth, f_ended, f_endTarget, f_endKind, f_endWorth, f_steps, f_says, f_result, f_thrown, f_over, a_kind, a_up, a_length, a_value, a_below, a_open, a_token, a_height, a_target, a_phase, a_how, a_kinds, a_worth, a_values, a_variables, a_begun, a_output) (nI 0) := yo_op P hr hi hT hh7 eT ho h
  exact ⟨vp_in_nI (by omega) (by decide), nm_e (nm_e (br_t rfl g))⟩
/-- the road of attempt behind the choice of a catch -/
theorem yz_46 (P : pg_T K V Z a_up a_below LN) (E : pg_E K V a_kind a_value LN) (hr : r < 4) (hi : i < LN r) (hk : K (40 * r + i) = 17) (hy : 1 ≤ y) (hy4 : y ≤ 4) (he : y = 1 → ¬ f_ended = 4) (h : wY_attempt_47 post (nI (40 * r + i)) (nI y) (nI (tk_cn (V (40 * r + i)))) (nI (1 + tk_cn (V (40 * r + i)))) 0 f_place f_top f_held f_depth f_ended f_endTarget f_endKind f_endWorth f_steps f_says f_result f_thrown f_over a_kind a_up a_length a_value a_below a_open a_token a_height a_target a_phase a_how a_kinds a_worth a_values a_variables a_begun a_output) : wpY_attempt post (f_place, f_top, f_held, f_depth, f_ended, f_endTarget, f_endKind, f_endWorth, f_steps, f_says, f_result, f_thrown, f_over, a_kind, a_up, a_length, a_value, a_below, a_open, a_token, a_height, a_target, a_phase, a_how, a_kinds, a_worth, a_values, a_variables, a_begun, a_output) (nI (40 * r + i)) (nI y) := by
  obtain ⟨hok, hj, _⟩ := pg_tok P hr hi
  rw [hk] at hok
  have ev := (E r hr i hi).2
  refine ⟨vp_in_nI (by omega) (by decide), nm_r (e' := nI (tk_cn (V (40 * r + i)))) (by rw [nI_clamp (by omega), ev]; exact (yz_cn hok).1) (nm_r (e' := nI (1 + tk_cn (V (40 * r + i)))) (nI_add 1 _) (br_f (nI_ne0 hy (by omega)) (br_c (fun z => br_f (he ?_) h) (fun _ => h))))⟩
  exact (nI_eq (a := y) (b := 1) (by omega) (by omega)).mp z
theorem yz_none (P : pg_T K V Z a_up a_below LN) (E : pg_E K V a_kind a_value LN) (hr : r < 4) (hi : i < LN r) (hk : K (40 * r + i) = 17) (hy : 1 ≤ y) (hy2 : y ≤ tk_cn (V (40 * r + i)) + 1) (hf : tk_fn (V (40 * r + i)) = 0) (hT : T < 600) (eH : a_height T = nI hh) (h : post (f_place, nI T, nI hh, f_depth, f_ended, f_endTarget, f_endKind, f_endWorth, f_steps, f_says, f_result, f_thrown, f_over, a_kind, a_up, a_length, a_value, a_below, a_open, a_token, a_height, a_target, a_phase, a_how, a_kinds, a_worth, a_values, a_variables, a_begun, a_output)) : wY_attempt_47 post (nI (40 * r + i)) (nI y) (nI (tk_cn (V (40 * r + i)))) (nI (1 + tk_cn (V (40 * r + i)))) 0 f_place (nI (T + 1)) f_held f_depth f_ended f_endTarget f_endKind f_endWorth f_steps f_says f_result f_thrown f_over a_kind a_up a_length a_value a_below a_open a_token a_height a_target a_phase a_how a_kinds a_worth a_values a_variables a_begun a_output := by
  obtain ⟨hok, hj, _⟩ := pg_tok P hr hi
  rw [hk] at hok
  have ev := (E r hr i hi).2
  have hc := tk_cn_le (V (40 * r + i))
  have g : wpY_through post (f_place, nI (T + 1), f_held, f_depth, f_ended, f_endTarget, f_endKind, f_endWorth, f_steps, f_says, f_result, f_thrown, f_over, a_kind, a_up, a_length, a_value, a_below, a_open, a_token, a_height, a_target, a_phase, a_how, a_kinds, a_worth, a_values, a_variables, a_begun, a_output) 0 0 := yo_thr0 hT eH h
  refine br_t (by decide) (br_f (by rw [nI_1]; exact nI_nlt (by omega) (by omega)) ⟨vp_in_nI (by omega) (by decide), br_t ?_ (br_f ?_ g)⟩)
  · rw [nI_clamp (n := 40 * r + i) (by omega), ev]
    rcases (yz_cn hok).2 with q | q
    · exact q.1
    · omega
  · intro z
    have := (nI_eq (a := y) (b := 4) (by omega) (by omega)).mp z
    omega
theorem yz_fin (P : pg_T K V Z a_up a_below LN) (E : pg_E K V a_kind a_value LN) (hr : r < 4) (hi : i < LN r) (hk : K (40 * r + i) = 17) (hy : 1 ≤ y) (hy2 : y ≤ tk_cn (V (40 * r + i)) + 1) (hf : tk_fn (V (40 * r + i)) = 1) (hT : T + 1 < 600) (hh7 : hh < 700) (eT : a_token T = nI (40 * r + i)) (h : post (f_place, nI (T + 1 + 1), nI hh, f_depth, 0, f_endTarget, f_endKind, f_endWorth, f_steps, f_says, f_result, f_thrown, f_over, a_kind, a_up, a_length, a_value, a_below, a_open, upd a_token (T + 1) (nI (40 * r + tr_ca (ro Z r) i (1 + tk_cn (V (40 * r + i))))), upd a_height (T + 1) (nI hh), upd a_target T (vp_nar .short f_endTarget.toInt16.toInt32), upd (upd (upd a_phase T (nI (1 + tk_cn (V (40 * r + i)) + 1))) (T + 1) 0) T 4, upd a_how T (vp_nar .byte f_ended.toInt8.toInt32), upd a_kinds T (vp_nar .byte f_endKind.toInt8.toInt32), upd a_worth T f_endWorth, a_values, a_variables, a_begun, a_output)) : wY_attempt_47 post (nI (40 * r + i)) (nI y) (nI (tk_cn (V (40 * r + i)))) (nI (1 + tk_cn (V (40 * r + i)))) 0 f_place (nI (T + 1)) (nI hh) f_depth f_ended f_endTarget f_endKind f_endWorth f_steps f_says f_result f_thrown f_over a_kind a_up a_length a_value a_below a_open a_token a_height a_target a_phase a_how a_kinds a_worth a_values a_variables a_begun a_output := by
  obtain ⟨hok, hj, _⟩ := pg_tok P hr hi
  have hn : 1 + tk_cn (V (40 * r + i)) < tk_np (K (40 * r + i)) (V (40 * r + i)) := by
    rw [hk]
    unfold tk_np
    rw [if_pos rfl, hf]
    omega
  rw [hk] at hok
  have ev := (E r hr i hi).2
  have hc := tk_cn_le (V (40 * r + i))
  have e : nI (T + 1) - 1 = nI T := nI_pred T
  have hv : vp_in (nI (T + 1) - 1) 600 := by rw [e]; exact vp_in_nI (by omega) (by decide)
  have e2 : nI (T + 1 + 1) - 2 = nI T := pk_sub (a := T + 1 + 1) (b := 2) (by omega)
  refine br_t (by decide) (br_f (by rw [nI_1]; exact nI_nlt (by omega) (by omega)) ⟨vp_in_nI (by omega) (by decide), br_f ?_ (br_f (nI_ge (b := 4) (by omega) (by decide)) ⟨hv, nm_r (e' := upd a_target T (vp_nar .short f_endTarget.toInt16.toInt32)) (by rw [e, nI_clamp (by omega)]) ⟨hv, nm_r (e' := upd a_how T (vp_nar .byte f_ended.toInt8.toInt32)) (by rw [e, nI_clamp (by omega)]) ⟨hv, nm_r (e' := upd a_kinds T (vp_nar .byte f_endKind.toInt8.toInt32)) (by rw [e, nI_clamp (by omega)]) ⟨hv, nm_r (e' := upd a_worth T f_endWorth) (by rw [e, nI_clamp (by omega)]) (yo_op P hr hi hT hh7 eT hn ⟨by rw [e2]; exact vp_in_nI (by omega) (by decide), nm_r ?_ h⟩)⟩⟩⟩⟩)⟩)
  · rw [nI_clamp (n := 40 * r + i) (by omega), ev]
    rcases (yz_cn hok).2 with q | q
    · omega
    · exact q.1
  · rw [e2, nI_clamp (by omega)]
    exact congrArg (upd _ T) (qb_nb (n := 4) (by decide))
theorem yz_back (P : pg_T K V Z a_up a_below LN) (hr : r < 4) (hi : i < LN r) (hT : T < 600) (eH : a_height T = nI hh) (h : post (f_place, nI T, nI hh, f_depth, a_how T, a_target T, a_kinds T, a_worth T, f_steps, f_says, f_result, f_thrown, f_over, a_kind, a_up, a_length, a_value, a_below, a_open, a_token, a_height, a_target, a_phase, a_how, a_kinds, a_worth, a_values, a_variables, a_begun, a_output)) : wY_attempt_47 post (nI (40 * r + i)) (nI 4) (nI (tk_cn (V (40 * r + i)))) (nI (1 + tk_cn (V (40 * r + i)))) 0 f_place (nI (T + 1)) f_held f_depth 0 f_endTarget f_endKind f_endWorth f_steps f_says f_result f_thrown f_over a_kind a_up a_length a_value a_below a_open a_token a_height a_target a_phase a_how a_kinds a_worth a_values a_variables a_begun a_output := by
  have hc := tk_cn_le (V (40 * r + i))
  have e : nI (T + 1) - 1 = nI T := nI_pred T
  have hv : vp_in (nI (T + 1) - 1) 600 := by rw [e]; exact vp_in_nI (by omega) (by decide)
  have g : wpY_through post (f_place, nI (T + 1), f_held, f_depth, a_how T, a_target T, a_kinds T, a_worth T, f_steps, f_says, f_result, f_thrown, f_over, a_kind, a_up, a_length, a_value, a_below, a_open, a_token, a_height, a_target, a_phase, a_how, a_kinds, a_worth, a_values, a_variables, a_begun, a_output) 0 0 := yo_thr0 hT eH h
  exact br_t (by decide) (br_t (by rw [nI_1]; exact nI_lt (b := 4) (by omega) (by decide)) (br_t rfl (br_t rfl ⟨hv, nm_r (by rw [e, nI_clamp (by omega)]) ⟨hv, nm_r (by rw [e, nI_clamp (by omega)]) ⟨hv, nm_r (by rw [e, nI_clamp (by omega)]) ⟨hv, nm_r (by rw [e, nI_clamp (by omega)]) g⟩⟩⟩⟩)))
theorem yz_4out (hT : T < 600) (eH : a_height T = nI hh) (he : ¬ f_ended = 0) (h : post (f_place, nI T, nI hh, f_depth, f_ended, f_endTarget, f_endKind, f_endWorth, f_steps, f_says, f_result, f_thrown, f_over, a_kind, a_up, a_length, a_value, a_below, a_open, a_token, a_height, a_target, a_phase, a_how, a_kinds, a_worth, a_values, a_variables, a_begun, a_output)) : wY_attempt_47 post (nI (40 * r + i)) (nI 4) (nI (tk_cn (V (40 * r + i)))) (nI (1 + tk_cn (V (40 * r + i)))) 0 f_place (nI (T + 1)) f_held f_depth f_ended f_endTarget f_endKind f_endWorth f_steps f_says f_result f_thrown f_over a_kind a_up a_length a_value a_below a_open a_token a_height a_target a_phase a_how a_kinds a_worth a_values a_variables a_begun a_output := by
  have hc := tk_cn_le (V (40 * r + i))
  have g : wpY_through post (f_place, nI (T + 1), f_held, f_depth, f_ended, f_endTarget, f_endKind, f_endWorth, f_steps, f_says, f_result, f_thrown, f_over, a_kind, a_up, a_length, a_value, a_below, a_open, a_token, a_height, a_target, a_phase, a_how, a_kinds, a_worth, a_values, a_variables, a_begun, a_output) 0 0 := yo_thr0 hT eH h
  exact br_t (by decide) (br_t (by rw [nI_1]; exact nI_lt (b := 4) (by omega) (by decide)) (br_t rfl (br_f he g)))
theorem yz_for {post : Int32 → Prop} (P : pg_T K V Z a_up a_below LN) (E : pg_E K V a_kind a_value LN) (hr : r < 4) (hi : i < LN r) (hk : K (40 * r + i) = 17) (h1 : ∀ c, 1 ≤ c → c ≤ tk_cn (V (40 * r + i)) → ct_m V Z r i f_endKind c → (∀ b, 1 ≤ b → b < c → ¬ ct_m V Z r i f_endKind b) → post (nI c)) (h0 : (∀ b, 1 ≤ b → b ≤ tk_cn (V (40 * r + i)) → ¬ ct_m V Z r i f_endKind b) → post 0) : wpY_chosen post (f_place, f_top, f_held, f_depth, f_ended, f_endTarget, f_endKind, f_endWorth, f_steps, f_says, f_result, f_thrown, f_over, a_kind, a_up, a_length, a_value, a_below, a_open, a_token, a_height, a_target, a_phase, a_how, a_kinds, a_worth, a_values, a_variables, a_begun, a_output) (nI (40 * r + i)) (nI (tk_cn (V (40 * r + i)))) := by
  obtain ⟨hok, hj, hi40⟩ := pg_tok P hr hi
  have hc2 := tk_cn_le (V (40 * r + i))
  have ed : nI (40 * r + i) / 40 * 40 = nI (40 * r) := by
    rw [show nI (40 * r + i) / 40 = nI ((40 * r + i) / 40) from pk_div (d := 40) (by omega) (by omega) (by omega), show nI ((40 * r + i) / 40) * 40 = nI ((40 * r + i) / 40 * 40) from pk_mul _ 40]
    exact congrArg nI (by omega)
  have Lp : ∀ d c, 1 ≤ c → c + d = tk_cn (V (40 * r + i)) + 1 → (∀ b, 1 ≤ b → b < c → ¬ ct_m V Z r i f_endKind b) → wY_chosen_2 post (nI (40 * r + i)) (nI (tk_cn (V (40 * r + i)))) f_place f_top f_held f_depth f_ended f_endTarget f_endKind f_endWorth f_steps f_says f_result f_thrown f_over a_kind a_up a_length a_value a_below a_open a_token a_height a_target a_phase a_how a_kinds a_worth a_values a_variables a_begun a_output (d + 1) (nI c) := by
    intro d
    induction d with
    | zero =>
      intro c hc hd hn
      exact br_t (nI_lt (by omega) (by omega)) (h0 (fun b b1 b2 => hn b b1 (by omega)))
    | succ d ih =>
      intro c hc hd hn
      obtain ⟨t1, t2, t3, t4, t5, t6, t7, t8, t9, t10⟩ := tr_catch P hr hi hk hc (by omega)
      have Tr := P r hr (by omega)
      have hL := Tr.2.1
      have tb : a_below (160 * r + (4 * i + c)) = nI (tr_ca (ro Z r) i c) := ((Tr.2.2.2 i hi).2.2.1 c t1).2.1
      have e4 : (4 : Int32) * nI (40 * r + i) + nI c = nI (160 * r + (4 * i + c)) := by
        rw [show (4 : Int32) * nI (40 * r + i) = nI (4 * (40 * r + i)) from pk_mul 4 _, nI_add]
        exact congrArg nI (by omega)
      refine br_f (nI_nlt (by omega) (by omega)) ⟨by decide, by rw [e4]; exact vp_in_nI (by omega) (by decide), nm_r (e' := nI (40 * r + tr_ca (ro Z r) i c)) (by rw [ed, e4, nI_clamp (by omega), tb, nI_add]) ⟨vp_in_nI (by omega) (by decide), nm_r (e' := V (40 * r + tr_ca (ro Z r) i c) &&& 7) (by rw [nI_clamp (by omega), (E r hr _ t2).2]) ?_⟩⟩
      refine br_c (fun z2 => h1 c hc (by omega) (Or.inr z2) hn) (fun z2 => br_c (fun z => h1 c hc (by omega) (Or.inl z) hn) (fun z => nm_r (nI_1 c) (ih (c + 1) (by omega) (by omega) (fun b b1 b2 => ?_))))
      by_cases e : b = c
      · subst e
        exact fun q => q.elim z z2
      · exact hn b b1 (by omega)
  exact ⟨tk_cn (V (40 * r + i)) + 1, Lp _ 1 (by omega) (by omega) (fun b b1 b2 => by omega)⟩
theorem yz_hand (P : pg_T K V Z a_up a_below LN) (E : pg_E K V a_kind a_value LN) (hr : r < 4) (hi : i < LN r) (hk : K (40 * r + i) = 17) {w c m : Nat} (w1 : 1 ≤ w) (w12 : w ≤ 12) (c1 : 1 ≤ c) (c2 : c ≤ tk_cn (V (40 * r + i))) (cm : ct_m V Z r i f_endKind c) (cf : ∀ b, 1 ≤ b → b < c → ¬ ct_m V Z r i f_endKind b) (em : V (40 * r + tr_ca (ro Z r) i c) = nI m) (hm : m < 48) (hT : T + 1 < 600) (hh7 : hh < 700) (eT : a_token T = nI (40 * r + i)) (h : post (f_place, nI (T + 1 + 1), nI hh, nI w, 0, f_endTarget, f_endKind, f_endWorth, f_steps, f_says, f_result, f_thrown, f_over, a_kind, a_up, a_length, a_value, a_below, a_open, upd a_token (T + 1) (nI (40 * r + tr_ca (ro Z r) i c)), upd a_height (T + 1) (nI hh), a_target, upd (upd a_phase T (nI (c + 1))) (T + 1) 0, a_how, a_kinds, a_worth, a_values, upd a_variables (6 * (w - 1) + m / 8) f_endWorth, a_begun, a_output)) : wpY_attempt post (f_place, nI (T + 1), nI hh, nI w, 4, f_endTarget, f_endKind, f_endWorth, f_steps, f_says, f_result, f_thrown, f_over, a_kind, a_up, a_length, a_value, a_below, a_open, a_token, a_height, a_target, a_phase, a_how, a_kinds, a_worth, a_values, a_variables, a_begun, a_output) (nI (40 * r + i)) (nI 1) := by
  obtain ⟨hok, hj, _⟩ := pg_tok P hr hi
  rw [hk] at hok
  have ev := (E r hr i hi).2
  have hc := tk_cn_le (V (40 * r + i))
  have ed : nI (40 * r + i) / 40 * 40 = nI (40 * r) := by
    rw [show nI (40 * r + i) / 40 = nI ((40 * r + i) / 40) from pk_div (d := 40) (by omega) (by omega) (by omega), show nI ((40 * r + i) / 40) * 40 = nI ((40 * r + i) / 40 * 40) from pk_mul _ 40]
    exact congrArg nI (by omega)
  refine ⟨vp_in_nI (by omega) (by decide), nm_r (e' := nI (tk_cn (V (40 * r + i)))) (by rw [nI_clamp (by omega), ev]; exact (yz_cn hok).1) (nm_r (e' := nI (1 + tk_cn (V (40 * r + i)))) (nI_add 1 _) (br_f (by decide) (br_t rfl (br_t rfl (yz_for P E hr hi hk (fun c' a1 a2 a3 a4 => ?_) (fun hn => (hn c c1 c2 cm).elim))))))⟩
  have : c' = c := by
    rcases Nat.lt_trichotomy c' c with z | z | z
    · exact (cf c' a1 z a3).elim
    · exact z
    · exact (a4 c c1 z cm).elim
  subst this
  obtain ⟨t1, t2, t3, t4, t5, t6, t7, t8, t9, t10⟩ := tr_catch P hr hi hk c1 c2
  have Tr := P r hr (by omega)
  have hL := Tr.2.1
  have tb : a_below (160 * r + (4 * i + c')) = nI (tr_ca (ro Z r) i c') := ((Tr.2.2.2 i hi).2.2.1 c' t1).2.1
  have e4 : (4 : Int32) * nI (40 * r + i) + nI c' = nI (160 * r + (4 * i + c')) := by
    rw [show (4 : Int32) * nI (40 * r + i) = nI (4 * (40 * r + i)) from pk_mul 4 _, nI_add]
    exact congrArg nI (by omega)
  have es : nI m >>> ((3 : Int32) &&& 31) = nI (m / 8) := pk_shrN (by omega) _ 3 (by decide)
  have ex : a_value (nI (40 * r + tr_ca (ro Z r) i c')).toNatClampNeg >>> ((3 : Int32) &&& 31) = nI (m / 8) := by rw [nI_clamp (by omega), (E r hr _ t2).2, em, es]
  refine br_f (nI_nle c1 (by omega)) ⟨by decide, by rw [e4]; exact vp_in_nI (by omega) (by decide), nm_r (e' := nI (40 * r + tr_ca (ro Z r) i c')) (by rw [ed, e4, nI_clamp (by omega), tb, nI_add]) ⟨vp_in_nI (by omega) (by decide), ?_, nm_r (e' := upd a_variables (6 * (w - 1) + m / 8) f_endWorth) ?_ (yo_op P hr hi hT hh7 eT t1 h)⟩⟩
  · rw [ex, vy_ix w1]
    exact vp_in_nI (by omega) (by decide)
  · rw [ex, vy_ix w1, nI_clamp (by omega)]
theorem yz_nohand (P : pg_T K V Z a_up a_below LN) (E : pg_E K V a_kind a_value LN) (hr : r < 4) (hi : i < LN r) (hk : K (40 * r + i) = 17) (hn : ∀ b, 1 ≤ b → b ≤ tk_cn (V (40 * r + i)) → ¬ ct_m V Z r i f_endKind b) (h : wY_attempt_47 post (nI (40 * r + i)) (nI 1) (nI (tk_cn (V (40 * r + i)))) (nI (1 + tk_cn (V (40 * r + i)))) 0 f_place f_top f_held f_depth 4 f_endTarget f_endKind f_endWorth f_steps f_says f_result f_thrown f_over a_kind a_up a_length a_value a_below a_open a_token a_height a_target a_phase a_how a_kinds a_worth a_values a_variables a_begun a_output) : wpY_attempt post (f_place, f_top, f_held, f_depth, 4, f_endTarget, f_endKind, f_endWorth, f_steps, f_says, f_result, f_thrown, f_over, a_kind, a_up, a_length, a_value, a_below, a_open, a_token, a_height, a_target, a_phase, a_how, a_kinds, a_worth, a_values, a_variables, a_begun, a_output) (nI (40 * r + i)) (nI 1) := by
  obtain ⟨hok, hj, _⟩ := pg_tok P hr hi
  rw [hk] at hok
  have ev := (E r hr i hi).2
  exact ⟨vp_in_nI (by omega) (by decide), nm_r (e' := nI (tk_cn (V (40 * r + i)))) (by rw [nI_clamp (by omega), ev]; exact (yz_cn hok).1) (nm_r (e' := nI (1 + tk_cn (V (40 * r + i)))) (nI_add 1 _) (br_f (by decide) (br_t rfl (br_t rfl (yz_for P E hr hi hk (fun c' a1 a2 a3 _ => (hn c' a1 a2 a3).elim) (fun _ => h))))))⟩
end
end
section
/-- what holds at every head of the loop -/
def wf_A (K V U : Nat → Int32) (LN : Nat → Nat) (st : List Fr) (e n : Int32) (t q : Nat) : Prop := st_wf K V U LN st ∧ st_top K V U st e n t ∧ st_w K st ≤ 12 ∧ q ≤ 300
/-- one turn of X, one or two of Y, and less is left to do -/
def GD (f_expectedCount f_draftLength f_latestPlace f_place f_result f_thrown : Int32) (K V Z HB EX KY U LY VY B OP : Nat → Int32) (LN : Nat → Nat) (st : List Fr) (e n v : Int32) (t s q : Nat) (va ou : Nat → Int32) : Prop :=
  ∃ (st' : List Fr) (e' n' v' : Int32) (t' s' q' : Nat) (va' ou' : Nat → Int32), wf_A K V U LN st' e' n' t' q' ∧ ph_S K V Z st' + 201 * (300 - q') < ph_S K V Z st + 201 * (300 - q) ∧ s' ≤ s + 1 ∧
  (∀ (post : Int32 → SX → Prop) (m turn : Nat), turn < 1000000 → XA f_expectedCount f_draftLength f_latestPlace K V Z HB EX post m (turn + 1) st' e' n' v' s' q' va' ou' → XA f_expectedCount f_draftLength f_latestPlace K V Z HB EX post (m + 1) turn st e n v s q va ou) ∧
  (∃ j, ∀ (post : Int32 → SY → Prop) (m : Nat), YA f_place f_result f_thrown K Z KY U LY VY B OP post m st' e' n' v' t' s' q' va' ou' → YA f_place f_result f_thrown K Z KY U LY VY B OP post (m + j) st e n v t s q va ou)
/-- the steps are used up -/
def OV (f_expectedCount f_draftLength f_latestPlace f_place f_result f_thrown : Int32) (K V Z HB EX KY U LY VY B OP : Nat → Int32) (LN : Nat → Nat) (st : List Fr) (e n v : Int32) (t s q : Nat) (va ou : Nat → Int32) : Prop :=
  q = 300 ∧ (∀ (post : Int32 → SX → Prop) (turn : Nat), turn < 1000000 → XF f_expectedCount f_draftLength f_latestPlace K V Z HB EX post 4 0 (-1) s q va ou → XA f_expectedCount f_draftLength f_latestPlace K V Z HB EX post 2 turn st e n v s q va ou) ∧
  (∀ (post : Int32 → SY → Prop), YF f_place f_result f_thrown K Z KY U LY VY B OP post 4 0 (-1) s q va ou → YA f_place f_result f_thrown K Z KY U LY VY B OP post 2 st e n v t s q va ou)
section
variable {f_expectedCount f_draftLength f_latestPlace f_place f_result f_thrown : Int32} {K V Z HB EX KY U LY VY B OP va ou : Nat → Int32} {LN : Nat → Nat} {r i p y c : Nat} {a e0 n0 e n v : Int32} {t0 t s q : Nat} {st : List Fr}
theorem wf_bd (P : pg_T K V Z U B LN) (W : st_wf K V U LN ((r, i, p, y, c, a, e0, n0, t0) :: st)) (h12 : st_w K ((r, i, p, y, c, a, e0, n0, t0) :: st) ≤ 12) : st_y st < 480 ∧ st.length < 480 ∧ st_h K st < 480 ∧ 40 * r + i < 160 ∧ i < 40 ∧ st_w K st ≤ 12 ∧ 1 ≤ st_w K st ∧ r < 4 ∧ i < LN r := by
  obtain ⟨w1, w2, w3, w4, w5, w6, w7, w8, w9⟩ := W
  have hT := P r w2 (by omega)
  have hL := hT.2.1
  have h1 := st_w_pos K st
  have hw : st_w K st ≤ st_w K ((r, i, p, y, c, a, e0, n0, t0) :: st) := by show _ ≤ st_w K st + _; omega
  have a1 := st_len_y st
  have a2 := st_h_y K st
  refine ⟨by omega, by omega, by omega, by omega, by omega, by omega, h1, w2, w3⟩
theorem st_top_0 {j : Nat} : st_top K V U ((r, j, 0, 0, 0, 0, 0, 0, 0) :: st) 0 n t := ⟨⟨Or.inl rfl, fun z => absurd z (by decide), fun z => absurd z (by decide)⟩, fun _ => rfl, fun z => by omega, fun _ z => by omega⟩
theorem st_w_n (h : ¬ (K (40 * r + i) = 8 ∧ p = 2)) : st_w K ((r, i, p, y, c, a, e0, n0, t0) :: st) = st_w K st := by
  show _ + _ = _
  rw [if_neg h]
  rfl
theorem fr_b_n {k : Int32} {p : Nat} (h : p ≠ 2) : fr_b k p = 0 := if_neg (fun z => h z.2)
theorem fr_b_k {k : Int32} {p : Nat} (h : ¬ (k = 2 ∨ k = 3 ∨ k = 4 ∨ k = 5 ∨ k = 6)) : fr_b k p = 0 := if_neg (fun z => h z.1)
theorem fr_b_2 {k : Int32} (h : k = 2 ∨ k = 3 ∨ k = 4 ∨ k = 5 ∨ k = 6) : fr_b k 2 = 1 := if_pos ⟨h, rfl⟩
theorem st_h_n (h : fr_b (K (40 * r + i)) p = 0) : st_h K ((r, i, p, y, c, a, e0, n0, t0) :: st) = st_h K st := by
  show st_h K st + _ = _
  rw [h]
  rfl
/-- an expression's part begins -/
theorem g_xpart (P : pg_T K V Z U B LN) (E : pg_E K V KY VY LN) (W : st_wf K V U LN ((r, i, p, y, c, a, e0, n0, t0) :: st)) (h12 : st_w K ((r, i, p, y, c, a, e0, n0, t0) :: st) ≤ 12) (hq : q ≤ 300) (hs : tk_so (K (40 * r + i)) = 0) (h8 : K (40 * r + i) ≠ 8) (hp : p < tk_np (K (40 * r + i)) (V (40 * r + i))) : GD f_expectedCount f_draftLength f_latestPlace f_place f_result f_thrown K V Z HB EX KY U LY VY B OP LN ((r, i, p, y, c, a, e0, n0, t0) :: st) 0 n v t s q va ou := by
  obtain ⟨b1, b2, b3, b4, b5, b6, b7, hr, hi⟩ := wf_bd P W h12
  obtain ⟨hk, _, _⟩ := pg_tok P hr hi
  -- the kinds: 2 to 6 with two parts, 7 with one
  have hkk : ((K (40 * r + i) = 2 ∨ K (40 * r + i) = 3 ∨ K (40 * r + i) = 4 ∨ K (40 * r + i) = 5 ∨ K (40 * r + i) = 6) ∧ tk_np (K (40 * r + i)) (V (40 * r + i)) = 2) ∨ (K (40 * r + i) = 7 ∧ tk_np (K (40 * r + i)) (V (40 * r + i)) = 1) := by
    have h := tk_kinds hk
    generalize K (40 * r + i) = k at h hs h8 hp ⊢
    rcases h with rfl | rfl | rfl | rfl | rfl | rfl | rfl | rfl | rfl | rfl | rfl | rfl | rfl | rfl | rfl | rfl | rfl | rfl | rfl | rfl | rfl
    all_goals first
      | exact absurd hs (by decide)
      | exact absurd rfl h8
      | exact absurd hp (Nat.not_lt_zero _)
      | exact Or.inl ⟨by decide, rfl⟩
      | exact Or.inr ⟨rfl, rfl⟩
  have hpl : tk_plain (K (40 * r + i)) := by
    rcases hkk with ⟨h | h | h | h | h, _⟩ | ⟨h, _⟩ <;> rw [h] <;> exact ⟨by decide, by decide, by decide, by decide⟩
  obtain ⟨hp1, hp2, hp3, hp4⟩ := hpl
  have hp2' : p = 0 ∨ (p = 1 ∧ (K (40 * r + i) = 2 ∨ K (40 * r + i) = 3 ∨ K (40 * r + i) = 4 ∨ K (40 * r + i) = 5 ∨ K (40 * r + i) = 6)) := by
    rcases hkk with ⟨h, h'⟩ | ⟨h, h'⟩
    · have : p = 0 ∨ p = 1 := by omega
      exact this.imp id (fun z => ⟨z, h⟩)
    · exact Or.inl (by omega)
  have hc : c = 0 ∧ y = p := by
    rcases W.2.2.2.2.1 with ⟨h, _⟩ | ⟨h, _⟩ | ⟨h | h, _⟩ | ⟨_, _, _, _, h, h', _⟩
    · exact (hp4 h).elim
    · exact (hp2 h).elim
    · exact (hp3 h).elim
    · exact (hp1 h).elim
    · exact ⟨h, h'⟩
  obtain ⟨rfl, rfl⟩ := hc
  have hcs : fr_cs (K (40 * r + i)) y = 0 := by
    rcases hkk with ⟨h | h | h | h | h, _⟩ | ⟨h, _⟩ <;> rw [h] <;> rfl
  have hcs' : fr_cs (K (40 * r + i)) (y + 1) = 0 := by
    rcases hkk with ⟨h | h | h | h | h, _⟩ | ⟨h, _⟩ <;> rw [h] <;> rfl
  have hwt : tk_wt (K (40 * r + i)) (V (40 * r + i)) y = 0 := by
    rcases hkk with ⟨h | h | h | h | h, _⟩ | ⟨h, _⟩ <;> rw [h] <;> rfl
  have hix : ∀ x, fr_ix (K (40 * r + i)) (V (40 * r + i)) x = x := by
    intro x
    rcases hkk with ⟨h | h | h | h | h, _⟩ | ⟨h, _⟩ <;> rw [h] <;> rfl
  have hn2 : tk_np (K (40 * r + i)) (V (40 * r + i)) ≤ 2 := by rcases hkk with ⟨_, h⟩ | ⟨_, h⟩ <;> omega
  have nc : ∀ x, ¬ (K (40 * r + i) = 8 ∧ x = 2) := fun x z => h8 z.1
  obtain ⟨wf, ww⟩ := wf_part P W (a' := v) (e' := e0) (n' := n0) (t' := t0) (y' := y + 1) hp (nc _) (by omega) (Or.inr (Or.inr (Or.inr ⟨hp4, hp2, hp3, hp1, rfl, rfl, by omega, by omega⟩))) (hwt.trans hcs'.symm) (fun z => by omega)
  obtain ⟨d1, d2, d3, d4, d5, d6, d7, d8, d9⟩ := wf_bd P wf (by rw [ww]; exact b6)
  have mm := ph_part P hr hi (p := y) (p' := y + 1) (o := y) hp (by rw [hix]; exact Nat.le_refl _) (by rw [hix]; exact Nat.le_refl _) (by rw [hix]; omega) (by omega) (by omega)
  refine ⟨(r, tr_ca (ro Z r) i y, 0, 0, 0, 0, 0, 0, 0) :: (r, i, y + 1, y + 1, 0, v, e0, n0, t0) :: st, 0, n, v, t, s, q, va, ou, ⟨wf, st_top_0, by rw [ww]; exact b6, hq⟩, ?_, by omega, ?_, 1, ?_⟩
  · show ph_S K V Z st + ph_F K V Z r i (y + 1) + ph_F K V Z r (tr_ca (ro Z r) i y) 0 + _ < ph_S K V Z st + ph_F K V Z r i y + _
    omega
  · intro post m turn ht h ET EP KE KN KV hS; obtain ⟨s0, sT, sP, s3, sb⟩ := hS
    rw [st_w_n (nc _)]
    have e2 : st_w K ((r, i, y + 1, y + 1, 0, v, e0, n0, t0) :: st) = st_w K st := st_w_n (nc _)
    rw [← e2]
    refine xs_enter ht (by omega) (xn_plain b2 (by omega) sT sP hk ⟨hp1, hp2, hp3, hp4⟩ (xp_push P hr hi b2 sT hp ?_))
    exact xk_push (st := (r, i, y + 1, y + 1, 0, v, e0, n0, t0) :: st) d2 (by omega) ⟨sx_keep st (fun _ _ => rfl) (fun q hq => pk_un (by omega)) (fun _ _ => rfl) (fun _ _ => rfl) (fun q hq => pk_un (by omega)) s0, sT, pk_us, fun z => by omega, fun _ => pk_us⟩ h
  · intro post m h hd tg kd wo TK HT PH TG HW KS WR VL BG hS hT; obtain ⟨y0, yT, yH, yP, yC, yV, y3, yB⟩ := hS
    have h9 : ¬ 9 ≤ K (40 * r + i) := by rcases hkk with ⟨h | h | h | h | h, _⟩ | ⟨h, _⟩ <;> rw [h] <;> decide
    have hv1 : fr_b (K (40 * r + i)) (y + 1) = 1 → VL (st_h K st) = v := by
      intro z
      rcases hp2' with rfl | ⟨rfl, hz⟩
      · rw [fr_b_n (by omega)] at z; omega
      · have := hT.2.1 rfl (by omega) hcs
        rw [st_h_n (fr_b_n (by omega))] at this
        exact this
    have hhd : hd = nI (st_h K ((r, i, y + 1, y + 1, 0, v, e0, n0, t0) :: st)) := by
      rw [hT.1]
      refine congrArg nI ?_
      show st_h K st + fr_b _ _ + _ = st_h K st + fr_b _ _
      rcases hp2' with rfl | ⟨rfl, hz⟩
      · rw [fr_b_n (by omega), fr_b_n (by omega), if_neg (fun z => by omega)]
      · rw [fr_b_n (by omega), fr_b_2 hz, if_pos ⟨rfl, by omega, hcs⟩]
    subst hhd
    rw [st_w_n (nc _)]
    have e2 : st_w K ((r, i, y + 1, y + 1, 0, v, e0, n0, t0) :: st) = st_w K st := st_w_n (nc _)
    rw [← e2]
    refine ys_enter (T := st_y st) (by omega) (yw_x (by omega) (by omega) yT (E r hr i hi).1 yP h9 (ye_in hk hs (fun z => (h8 z).elim) (by omega) (ye_part P hr hi (by omega) (by omega) yT hp ?_)))
    exact yk_push (st := (r, i, y + 1, y + 1, 0, v, e0, n0, t0) :: st) ⟨sy_keep st (fun _ _ => rfl) (fun _ _ => rfl) (fun q hq => pk_un (by omega)) (fun _ _ => rfl) (fun _ _ => rfl) (fun _ _ => rfl) (fun _ _ => rfl) (fun _ _ => rfl) (fun _ _ => rfl) y0, yT, yH, pk_us, fun z => (z rfl).elim, hv1, fun z => by omega, fun z => (h8 z).elim⟩ h
end
end
section
section
variable {f_expectedCount f_draftLength f_latestPlace f_place f_result f_thrown : Int32} {K V Z HB EX KY U LY VY B OP va ou : Nat → Int32} {LN : Nat → Nat} {r i p y c : Nat} {a e0 n0 e n v : Int32} {t0 t s q : Nat} {st : List Fr}
/-- a turn in which a part begins -/
theorem g_pushed (P : pg_T K V Z U B LN) {r1 j p' y' c' : Nat} {a' e1 n1 : Int32} {t1 : Nat} {n' v' : Int32} {t' s' q' : Nat} {va' ou' : Nat → Int32} (hwf : st_wf K V U LN ((r1, j, 0, 0, 0, 0, 0, 0, 0) :: (r, i, p', y', c', a', e1, n1, t1) :: st)) (hw : st_w K ((r1, j, 0, 0, 0, 0, 0, 0, 0) :: (r, i, p', y', c', a', e1, n1, t1) :: st) ≤ 12) (hq' : q' ≤ 300) (hm : ph_F K V Z r1 j 0 + ph_F K V Z r i p' + 201 * (300 - q') < ph_F K V Z r i p + 201 * (300 - q)) (hs : s' ≤ s + 1) (hl : st.length < 480)
    (hX : ∀ (ET EP KE KN KV : Nat → Int32) (post : Int32 → SX → Prop), sx_S K ET EP KE KN KV ((r, i, p, y, c, a, e0, n0, t0) :: st) → (∀ (ee : Int32) (EP' KE' KN' KV' : Nat → Int32), sx_S K ET EP' KE' KN' KV' ((r, i, p', y', c', a', e1, n1, t1) :: st) → post (nI (40 * r1 + j)) (f_expectedCount, f_draftLength, f_latestPlace, nI (st.length + 1), nI (st_w K ((r, i, p', y', c', a', e1, n1, t1) :: st)), ee, n', v', nI s', nI q', 0, 0, -1, K, V, Z, HB, EX, ET, EP', KE', KN', KV', va', ou')) → wpX_nextPart post (f_expectedCount, f_draftLength, f_latestPlace, nI (st.length + 1), nI (st_w K ((r, i, p, y, c, a, e0, n0, t0) :: st)), e, n, v, nI s, nI q, 0, 0, -1, K, V, Z, HB, EX, ET, EP, KE, KN, KV, va, ou))
    (hY : ∃ jj, ∀ (post : Int32 → SY → Prop) (m : Nat), YA f_place f_result f_thrown K Z KY U LY VY B OP post m ((r1, j, 0, 0, 0, 0, 0, 0, 0) :: (r, i, p', y', c', a', e1, n1, t1) :: st) 0 n' v' t' s' q' va' ou' → YA f_place f_result f_thrown K Z KY U LY VY B OP post (m + jj) ((r, i, p, y, c, a, e0, n0, t0) :: st) e n v t s q va ou) : GD f_expectedCount f_draftLength f_latestPlace f_place f_result f_thrown K V Z HB EX KY U LY VY B OP LN ((r, i, p, y, c, a, e0, n0, t0) :: st) e n v t s q va ou := by
  obtain ⟨d1, d2, d3, d4, d5, d6, d7, d8, d9⟩ := wf_bd P hwf hw
  refine ⟨(r1, j, 0, 0, 0, 0, 0, 0, 0) :: (r, i, p', y', c', a', e1, n1, t1) :: st, 0, n', v', t', s', q', va', ou', ⟨hwf, st_top_0, hw, hq'⟩, ?_, hs, ?_, hY⟩
  · show ph_S K V Z st + ph_F K V Z r i p' + ph_F K V Z r1 j 0 + _ < ph_S K V Z st + ph_F K V Z r i p + _
    omega
  · intro post m turn ht h ET EP KE KN KV hS
    exact xs_enter ht (by omega) (hX ET EP KE KN KV _ hS (fun ee EP' KE' KN' KV' hS' => xk_push (st := (r, i, p', y', c', a', e1, n1, t1) :: st) d2 (by omega) hS' h))
/-- Y's one turn in which a part begins -/
theorem g_y1 {r1 j p' y' : Nat} {a' e1 n1 : Int32} {t1 : Nat} {n' v' : Int32} {t' s' q' : Nat} {va' ou' : Nat → Int32} (hy : st_y st < 480)
    (hY : ∀ (hd tg kd wo : Int32) (TK HT PH TG HW KS WR VL BG : Nat → Int32) (post : SY → Prop), sy_S K Z TK HT PH TG HW KS WR VL BG ((r, i, p, y, 0, a, e0, n0, t0) :: st) → sy_top K VL ((r, i, p, y, 0, a, e0, n0, t0) :: st) e n v t hd tg kd wo → (∀ (PH' TG' HW' KS' WR' BG' : Nat → Int32), sy_S K Z TK HT PH' TG' HW' KS' WR' VL BG' ((r, i, p', y', 0, a', e1, n1, t1) :: st) → post (f_place, nI (st_y st + 1 + 1), nI (st_h K ((r, i, p', y', 0, a', e1, n1, t1) :: st)), nI (st_w K ((r, i, p', y', 0, a', e1, n1, t1) :: st)), 0, tg, kd, wo, nI q', nI s', f_result, f_thrown, 0, KY, U, LY, VY, B, OP, upd TK (st_y st + 1) (nI (40 * r1 + j)), upd HT (st_y st + 1) (nI (st_h K ((r, i, p', y', 0, a', e1, n1, t1) :: st))), TG', upd PH' (st_y st + 1) 0, HW', KS', WR', VL, va', BG', ou')) → wpY_work post (f_place, nI (st_y st + 1), hd, nI (st_w K ((r, i, p, y, 0, a, e0, n0, t0) :: st)), e, tg, kd, wo, nI q, nI s, f_result, f_thrown, 0, KY, U, LY, VY, B, OP, TK, HT, TG, PH, HW, KS, WR, VL, va, BG, ou)) : ∃ jj, ∀ (post : Int32 → SY → Prop) (m : Nat), YA f_place f_result f_thrown K Z KY U LY VY B OP post m ((r1, j, 0, 0, 0, 0, 0, 0, 0) :: (r, i, p', y', 0, a', e1, n1, t1) :: st) 0 n' v' t' s' q' va' ou' → YA f_place f_result f_thrown K Z KY U LY VY B OP post (m + jj) ((r, i, p, y, 0, a, e0, n0, t0) :: st) e n v t s q va ou := by
  refine ⟨1, fun post m h hd tg kd wo TK HT PH TG HW KS WR VL BG hS hT => ?_⟩
  refine ys_enter (T := st_y st) (by omega) (hY hd tg kd wo TK HT PH TG HW KS WR VL BG _ hS hT (fun PH' TG' HW' KS' WR' BG' hS' => ?_))
  exact yk_push (st := (r, i, p', y', 0, a', e1, n1, t1) :: st) hS' h
/-- a turn in which the topmost frame goes -/
theorem g_popped (P : pg_T K V Z U B LN) {e' n' v' : Int32} {t' s' q' : Nat} {va' ou' : Nat → Int32} (W : st_wf K V U LN ((r, i, p, y, c, a, e0, n0, t0) :: st)) (hen : en_pop K V U r i e' n' t') (hw : st_w K st ≤ 12) (hq' : q' ≤ 300) (hqq : q ≤ q') (hs : s' ≤ s + 1) (hl : st.length < 480)
    (hX : ∀ (ET EP KE KN KV : Nat → Int32) (post : Int32 → SX → Prop), sx_S K ET EP KE KN KV ((r, i, p, y, c, a, e0, n0, t0) :: st) → (∀ (EP' : Nat → Int32), (∀ q, q < st.length → EP' q = EP q) → post (-1) (f_expectedCount, f_draftLength, f_latestPlace, nI (st.length + 1), nI (st_w K st), e', n', v', nI s', nI q', 0, 0, -1, K, V, Z, HB, EX, ET, EP', KE, KN, KV, va', ou')) → wpX_nextPart post (f_expectedCount, f_draftLength, f_latestPlace, nI (st.length + 1), nI (st_w K ((r, i, p, y, c, a, e0, n0, t0) :: st)), e, n, v, nI s, nI q, 0, 0, -1, K, V, Z, HB, EX, ET, EP, KE, KN, KV, va, ou))
    (hY : ∃ jj, ∀ (post : Int32 → SY → Prop) (m : Nat), YA f_place f_result f_thrown K Z KY U LY VY B OP post m st e' n' v' t' s' q' va' ou' → YA f_place f_result f_thrown K Z KY U LY VY B OP post (m + jj) ((r, i, p, y, c, a, e0, n0, t0) :: st) e n v t s q va ou) : GD f_expectedCount f_draftLength f_latestPlace f_place f_result f_thrown K V Z HB EX KY U LY VY B OP LN ((r, i, p, y, c, a, e0, n0, t0) :: st) e n v t s q va ou := by
  refine ⟨st, e', n', v', t', s', q', va', ou', ⟨W.1, st_pop W hen, hw, hq'⟩, ?_, hs, ?_, hY⟩
  · have := ph_F_pos (K := K) (V := V) (Z := Z) (r := r) (i := i) (fr_ok_le W.2.2.2.2.1)
    show _ < ph_S K V Z st + ph_F K V Z r i p + _
    omega
  · intro post m turn ht h ET EP KE KN KV hS
    exact xs_enter ht (by omega) (hX ET EP KE KN KV _ hS (fun EP' hE => xk_pop (sx_keep st (fun _ _ => rfl) hE (fun _ _ => rfl) (fun _ _ => rfl) (fun _ _ => rfl) hS.1) h))
/-- Y's one turn in which the topmost frame goes -/
theorem g_y0 {e' n' v' : Int32} {t' s' q' : Nat} {va' ou' : Nat → Int32} (hy : st_y st < 480)
    (hY : ∀ (hd tg kd wo : Int32) (TK HT PH TG HW KS WR VL BG : Nat → Int32) (post : SY → Prop), sy_S K Z TK HT PH TG HW KS WR VL BG ((r, i, p, y, 0, a, e0, n0, t0) :: st) → sy_top K VL ((r, i, p, y, 0, a, e0, n0, t0) :: st) e n v t hd tg kd wo → (∀ (hd' tg' kd' wo' : Int32) (VL' : Nat → Int32), (∀ q, q < st_h K st → VL' q = VL q) → sy_top K VL' st e' n' v' t' hd' tg' kd' wo' → post (f_place, nI (st_y st), hd', nI (st_w K st), e', tg', kd', wo', nI q', nI s', f_result, f_thrown, 0, KY, U, LY, VY, B, OP, TK, HT, TG, PH, HW, KS, WR, VL', va', BG, ou')) → wpY_work post (f_place, nI (st_y st + 1), hd, nI (st_w K ((r, i, p, y, 0, a, e0, n0, t0) :: st)), e, tg, kd, wo, nI q, nI s, f_result, f_thrown, 0, KY, U, LY, VY, B, OP, TK, HT, TG, PH, HW, KS, WR, VL, va, BG, ou)) : ∃ jj, ∀ (post : Int32 → SY → Prop) (m : Nat), YA f_place f_result f_thrown K Z KY U LY VY B OP post m st e' n' v' t' s' q' va' ou' → YA f_place f_result f_thrown K Z KY U LY VY B OP post (m + jj) ((r, i, p, y, 0, a, e0, n0, t0) :: st) e n v t s q va ou := by
  refine ⟨1, fun post m h hd tg kd wo TK HT PH TG HW KS WR VL BG hS hT => ?_⟩
  refine ys_enter (T := st_y st) (by omega) (hY hd tg kd wo TK HT PH TG HW KS WR VL BG _ hS hT (fun hd' tg' kd' wo' VL' hV hT' => ?_))
  exact yk_pop (sy_keep st (fun _ _ => rfl) (fun _ _ => rfl) (fun _ _ => rfl) (fun _ _ => rfl) (fun _ _ => rfl) (fun _ _ => rfl) (fun _ _ => rfl) hV (fun _ _ => rfl) hS.1) hT' h
end
end
section
section
variable {f_expectedCount f_draftLength f_latestPlace f_place f_result f_thrown : Int32} {K V Z HB EX KY U LY VY B OP va ou : Nat → Int32} {LN : Nat → Nat} {r i p y c : Nat} {a e0 n0 e n v : Int32} {t0 t s q : Nat} {st : List Fr}
/-- a part begins, and no value is held over it -/
theorem g_part (P : pg_T K V Z U B LN) (E : pg_E K V KY VY LN) (W : st_wf K V U LN ((r, i, p, y, 0, a, e0, n0, t0) :: st)) (h12 : st_w K ((r, i, p, y, 0, a, e0, n0, t0) :: st) ≤ 12) (hq : q ≤ 300) {o p' y' q' : Nat} (ho : o < tk_np (K (40 * r + i)) (V (40 * r + i))) (nc : ¬ (K (40 * r + i) = 8 ∧ p = 2)) (nc' : ¬ (K (40 * r + i) = 8 ∧ p' = 2)) (hp1 : 1 ≤ p') (hp2 : p' ≤ 2) (ok : fr_ok (K (40 * r + i)) (V (40 * r + i)) p' y' 0) (hw : tk_wt (K (40 * r + i)) (V (40 * r + i)) o = fr_cs (K (40 * r + i)) p') (fb : fr_b (K (40 * r + i)) p = 0) (fb' : fr_b (K (40 * r + i)) p' = 0) (hq' : q' ≤ 300) (hm : ph_F K V Z r (tr_ca (ro Z r) i o) 0 + ph_F K V Z r i p' + 201 * (300 - q') < ph_F K V Z r i p + 201 * (300 - q))
    (hX : ∀ (ET EP KE KN KV : Nat → Int32) (post : Int32 → SX → Prop), ET st.length = nI (40 * r + i) → EP st.length = nI p → (∀ (ee : Int32) (EP' KV' : Nat → Int32), EP' st.length = nI p' → (∀ q, q < st.length → EP' q = EP q) → (∀ q, q < st.length → KV' q = KV q) → post (nI (40 * r + tr_ca (ro Z r) i o)) (f_expectedCount, f_draftLength, f_latestPlace, nI (st.length + 1), nI (st_w K st), ee, n, v, nI s, nI q', 0, 0, -1, K, V, Z, HB, EX, ET, EP', KE, KN, KV', va, ou)) → wpX_nextPart post (f_expectedCount, f_draftLength, f_latestPlace, nI (st.length + 1), nI (st_w K st), e, n, v, nI s, nI q, 0, 0, -1, K, V, Z, HB, EX, ET, EP, KE, KN, KV, va, ou))
    (hY : ∀ (hd tg kd wo : Int32) (TK HT PH TG HW KS WR VL BG : Nat → Int32) (post : SY → Prop), TK (st_y st) = nI (40 * r + i) → PH (st_y st) = nI y → hd = nI (st_h K st + (if e = 0 ∧ 1 ≤ p ∧ fr_cs (K (40 * r + i)) p = 0 then 1 else 0)) → (e = 0 → 1 ≤ p → fr_cs (K (40 * r + i)) p = 0 → VL (st_h K st) = v) → ((e = 1 ∨ e = 2) → tg = nI (40 * r + t)) → post (f_place, nI (st_y st + 1 + 1), nI (st_h K st), nI (st_w K st), 0, tg, kd, wo, nI q', nI s, f_result, f_thrown, 0, KY, U, LY, VY, B, OP, upd TK (st_y st + 1) (nI (40 * r + tr_ca (ro Z r) i o)), upd HT (st_y st + 1) (nI (st_h K st)), TG, upd (upd PH (st_y st) (nI y')) (st_y st + 1) 0, HW, KS, WR, VL, va, BG, ou) → wpY_work post (f_place, nI (st_y st + 1), hd, nI (st_w K st), e, tg, kd, wo, nI q, nI s, f_result, f_thrown, 0, KY, U, LY, VY, B, OP, TK, HT, TG, PH, HW, KS, WR, VL, va, BG, ou)) : GD f_expectedCount f_draftLength f_latestPlace f_place f_result f_thrown K V Z HB EX KY U LY VY B OP LN ((r, i, p, y, 0, a, e0, n0, t0) :: st) e n v t s q va ou := by
  obtain ⟨b1, b2, b3, b4, b5, b6, b7, hr, hi⟩ := wf_bd P W h12
  obtain ⟨wf, ww⟩ := wf_part P W (a' := a) (e' := e0) (n' := n0) (t' := t0) (y' := y') ho nc' hp1 ok hw (fun z => by omega)
  have eR : st_w K ((r, i, p, y, 0, a, e0, n0, t0) :: st) = st_w K st := st_w_n nc
  have eN : st_w K ((r, i, p', y', 0, a, e0, n0, t0) :: st) = st_w K st := st_w_n nc'
  have hN : st_h K ((r, i, p', y', 0, a, e0, n0, t0) :: st) = st_h K st := st_h_n fb'
  have hR : st_h K ((r, i, p, y, 0, a, e0, n0, t0) :: st) = st_h K st := st_h_n fb
  refine g_pushed P (n' := n) (v' := v) (t' := t) (s' := s) (va' := va) (ou' := ou) wf (by rw [ww]; exact b6) hq' hm (by omega) b2 ?_ (g_y1 b1 ?_)
  · intro ET EP KE KN KV post hS h
    obtain ⟨s0, sT, sP, s3, sb⟩ := hS
    rw [eR]
    rw [eN] at h
    exact hX ET EP KE KN KV post sT sP (fun ee EP' KV' q1 q2 q3 => h ee EP' KE KN KV' ⟨sx_keep st (fun _ _ => rfl) q2 (fun _ _ => rfl) (fun _ _ => rfl) q3 s0, sT, q1, fun z => by omega, fun z => by omega⟩)
  · intro hd tg kd wo TK HT PH TG HW KS WR VL BG post hS hT h
    obtain ⟨y0, yT, yH, yP, yC, yV, y3, yB⟩ := hS
    rw [eR]
    rw [eN, hN] at h
    have hT1 := hT.1
    have hT2 := hT.2.1
    rw [hR] at hT1 hT2
    refine hY hd tg kd wo TK HT PH TG HW KS WR VL BG post yT yP hT1 hT2 hT.2.2.1 (h (upd PH (st_y st) (nI y')) TG HW KS WR BG ⟨sy_keep st (fun _ _ => rfl) (fun _ _ => rfl) (fun q hq => pk_un (by omega)) (fun _ _ => rfl) (fun _ _ => rfl) (fun _ _ => rfl) (fun _ _ => rfl) (fun _ _ => rfl) (fun _ _ => rfl) y0, yT, yH, pk_us, fun z => (z rfl).elim, fun z => by omega, fun z => by omega, fun z1 z2 => (nc' ⟨z1, z2⟩).elim⟩)
/-- CALL: its argument -/
theorem g_call0 (P : pg_T K V Z U B LN) (E : pg_E K V KY VY LN) (W : st_wf K V U LN ((r, i, 0, 0, 0, a, e0, n0, t0) :: st)) (h12 : st_w K ((r, i, 0, 0, 0, a, e0, n0, t0) :: st) ≤ 12) (hq : q ≤ 300) (hk : K (40 * r + i) = 8) : GD f_expectedCount f_draftLength f_latestPlace f_place f_result f_thrown K V Z HB EX KY U LY VY B OP LN ((r, i, 0, 0, 0, a, e0, n0, t0) :: st) 0 n v t s q va ou := by
  obtain ⟨b1, b2, b3, b4, b5, b6, b7, hr, hi⟩ := wf_bd P W h12
  obtain ⟨hok, _, _⟩ := pg_tok P hr hi
  have hn : tk_np (K (40 * r + i)) (V (40 * r + i)) = 1 := by rw [hk]; rfl
  have h1 : fr_ix (K (40 * r + i)) (V (40 * r + i)) 1 = 1 := by rw [hk]; rfl
  have mm := ph_part P hr hi (p := 0) (p' := 1) (o := 0) (by omega) (by rw [fr_ix0]; exact Nat.le_refl _) (by omega) (by omega) (by omega) (by omega)
  refine g_part P E W h12 hq (o := 0) (p' := 1) (y' := 1) (q' := q) (by omega) (fun z => by omega) (fun z => by omega) (by omega) (by omega) (Or.inr (Or.inr (Or.inl ⟨Or.inr hk, rfl, by omega, rfl⟩))) (by rw [hk]; rfl) (fr_b_n (by omega)) (fr_b_n (by omega)) hq (by omega) ?_ ?_
  · intro ET EP KE KN KV post sT sP h
    exact xn_call b2 (by omega) sT sP hk (xc_0 b2 sT (h _ _ _ pk_us (fun q hq => pk_un (by omega)) (fun _ _ => rfl)))
  · intro hd tg kd wo TK HT PH TG HW KS WR VL BG post yT yP e1 _ _ h
    rw [if_neg (fun z => by omega)] at e1
    subst e1
    exact yw_x (by omega) (by omega) yT (E r hr i hi).1 yP (by rw [hk]; decide) (ye_in hok (by rw [hk]; decide) (fun _ => by omega) (by omega) (ye_part P hr hi (by omega) (by omega) yT (by omega) h))
/-- the first part of a statement -/
theorem g_stmt0 (P : pg_T K V Z U B LN) (E : pg_E K V KY VY LN) (W : st_wf K V U LN ((r, i, 0, 0, 0, a, e0, n0, t0) :: st)) (h12 : st_w K ((r, i, 0, 0, 0, a, e0, n0, t0) :: st) ≤ 12) (hq : q ≤ 300) (hk : K (40 * r + i) = 10 ∨ K (40 * r + i) = 11 ∨ K (40 * r + i) = 14 ∨ K (40 * r + i) = 16 ∨ K (40 * r + i) = 21) : GD f_expectedCount f_draftLength f_latestPlace f_place f_result f_thrown K V Z HB EX KY U LY VY B OP LN ((r, i, 0, 0, 0, a, e0, n0, t0) :: st) 0 n v t s q va ou := by
  obtain ⟨b1, b2, b3, b4, b5, b6, b7, hr, hi⟩ := wf_bd P W h12
  obtain ⟨hok, _, _⟩ := pg_tok P hr hi
  have hn : 1 ≤ tk_np (K (40 * r + i)) (V (40 * r + i)) := by rcases hk with h | h | h | h | h <;> rw [h] <;> first | exact Nat.le_refl 1 | exact Nat.le_succ 1
  have h1 : fr_ix (K (40 * r + i)) (V (40 * r + i)) 1 = 1 := by rcases hk with h | h | h | h | h <;> rw [h] <;> rfl
  have pl : tk_plain (K (40 * r + i)) := by rcases hk with h | h | h | h | h <;> rw [h] <;> exact ⟨by decide, by decide, by decide, by decide⟩
  have mm := ph_part P hr hi (p := 0) (p' := 1) (o := 0) (by omega) (by rw [fr_ix0]; exact Nat.le_refl _) (by omega) (by omega) (by omega) (by omega)
  refine g_part P E W h12 hq (o := 0) (p' := 1) (y' := 1) (q' := q) (by omega) (fun z => by omega) (fun z => by omega) (by omega) (by omega) (Or.inr (Or.inr (Or.inr ⟨pl.2.2.2, pl.2.1, pl.2.2.1, pl.1, rfl, rfl, hn, by omega⟩))) (by rcases hk with h | h | h | h | h <;> rw [h] <;> rfl) (fr_b_n (by omega)) (fr_b_n (by omega)) hq (by omega) ?_ ?_
  · intro ET EP KE KN KV post sT sP h
    exact xn_plain b2 (by omega) sT sP hok pl (xp_push P hr hi b2 sT (by omega) (h _ _ _ pk_us (fun q hq => pk_un (by omega)) (fun q hq => pk_un (by omega))))
  · intro hd tg kd wo TK HT PH TG HW KS WR VL BG post yT yP e1 _ _ h
    rw [if_neg (fun z => by omega)] at e1
    subst e1
    refine yw_s (by omega) (by omega) yT (E r hr i hi).1 yP (by rcases hk with h | h | h | h | h <;> rw [h] <;> decide) pl.2.2.2 pl.2.2.1 (yt_first P hr hi (by omega) (by omega) yT (by omega) h (by rcases hk with h | h | h | h | h <;> rw [h] <;> decide))
/-- IF: its condition -/
theorem g_if0 (P : pg_T K V Z U B LN) (E : pg_E K V KY VY LN) (W : st_wf K V U LN ((r, i, 0, 0, 0, a, e0, n0, t0) :: st)) (h12 : st_w K ((r, i, 0, 0, 0, a, e0, n0, t0) :: st) ≤ 12) (hq : q ≤ 300) (hk : K (40 * r + i) = 12) : GD f_expectedCount f_draftLength f_latestPlace f_place f_result f_thrown K V Z HB EX KY U LY VY B OP LN ((r, i, 0, 0, 0, a, e0, n0, t0) :: st) 0 n v t s q va ou := by
  obtain ⟨b1, b2, b3, b4, b5, b6, b7, hr, hi⟩ := wf_bd P W h12
  have hn : tk_np (K (40 * r + i)) (V (40 * r + i)) = 3 := by rw [hk]; rfl
  have h1 : fr_ix (K (40 * r + i)) (V (40 * r + i)) 1 = 1 := by rw [hk]; rfl
  have mm := ph_part P hr hi (p := 0) (p' := 1) (o := 0) (by omega) (by rw [fr_ix0]; exact Nat.le_refl _) (by omega) (by omega) (by omega) (by omega)
  refine g_part P E W h12 hq (o := 0) (p' := 1) (y' := 1) (q' := q) (by omega) (fun z => by omega) (fun z => by omega) (by omega) (by omega) (Or.inr (Or.inl ⟨hk, rfl, Or.inr (Or.inl ⟨rfl, rfl⟩)⟩)) (by rw [hk]; rfl) (fr_b_n (by omega)) (fr_b_n (by omega)) hq (by omega) ?_ ?_
  · intro ET EP KE KN KV post sT sP h
    exact xn_if b2 (by omega) sT sP hk (xi_0 (h _ _ _ pk_us (fun q hq => pk_un (by omega)) (fun _ _ => rfl)))
  · intro hd tg kd wo TK HT PH TG HW KS WR VL BG post yT yP e1 _ _ h
    rw [if_neg (fun z => by omega)] at e1
    subst e1
    exact yw_s (by omega) (by omega) yT ((E r hr i hi).1.trans hk) yP (by decide) (by decide) (by decide) (yt_first P hr hi (by omega) (by omega) yT (by omega) h (by decide))
/-- IF: the statement that is chosen -/
theorem g_if1 (P : pg_T K V Z U B LN) (E : pg_E K V KY VY LN) (W : st_wf K V U LN ((r, i, 1, 1, 0, a, e0, n0, t0) :: st)) (h12 : st_w K ((r, i, 1, 1, 0, a, e0, n0, t0) :: st) ≤ 12) (hq : q ≤ 300) (hk : K (40 * r + i) = 12) : GD f_expectedCount f_draftLength f_latestPlace f_place f_result f_thrown K V Z HB EX KY U LY VY B OP LN ((r, i, 1, 1, 0, a, e0, n0, t0) :: st) 0 n v t s q va ou := by
  obtain ⟨b1, b2, b3, b4, b5, b6, b7, hr, hi⟩ := wf_bd P W h12
  have hn : tk_np (K (40 * r + i)) (V (40 * r + i)) = 3 := by rw [hk]; rfl
  have h1 : fr_ix (K (40 * r + i)) (V (40 * r + i)) 1 = 1 := by rw [hk]; rfl
  have h2 : fr_ix (K (40 * r + i)) (V (40 * r + i)) 2 = 3 := by rw [hk]; rfl
  have hcs : fr_cs (K (40 * r + i)) 1 = 0 := by rw [hk]; rfl
  have ho : ∀ o, o = (if v = 0 then 2 else 1) → o = 1 ∨ o = 2 := fun o e => by rw [e]; split <;> omega
  obtain ⟨o, eo⟩ : ∃ o, o = (if v = 0 then 2 else 1) := ⟨_, rfl⟩
  have ho := ho o eo
  have mm := ph_part P hr hi (p := 1) (p' := 2) (o := o) (by omega) (by omega) (by omega) (by omega) (by omega) (by omega)
  have fk : ¬ (K (40 * r + i) = 2 ∨ K (40 * r + i) = 3 ∨ K (40 * r + i) = 4 ∨ K (40 * r + i) = 5 ∨ K (40 * r + i) = 6) := by rw [hk]; decide
  refine g_part P E W h12 hq (o := o) (p' := 2) (y' := o + 1) (q' := q) (by omega) (fun z => by omega) (fun z => absurd (hk.symm.trans z.1) (by decide)) (by omega) (by omega) (Or.inr (Or.inl ⟨hk, rfl, Or.inr (Or.inr ⟨rfl, by omega⟩)⟩)) (by rw [hk]; rcases ho with rfl | rfl <;> rfl) (fr_b_k fk) (fr_b_k fk) hq (by omega) ?_ ?_
  · intro ET EP KE KN KV post sT sP h
    exact xn_if b2 (by omega) sT sP hk (xi_part P hr hi hk (by rw [← eo]; exact h _ _ _ pk_us (fun q hq => pk_un (by omega)) (fun _ _ => rfl)))
  · intro hd tg kd wo TK HT PH TG HW KS WR VL BG post yT yP e1 e2 _ h
    rw [if_pos ⟨rfl, by omega, hcs⟩] at e1
    subst e1
    have e3 := e2 rfl (by omega) hcs
    exact yw_s (by omega) (by omega) yT ((E r hr i hi).1.trans hk) yP (by decide) (by decide) (by decide) (yt_if P hr hi (by omega) (by omega) yT (by rw [e3]; exact eo) (by omega) h)
/-- SEQ: its second statement -/
theorem g_seq1 (P : pg_T K V Z U B LN) (E : pg_E K V KY VY LN) (W : st_wf K V U LN ((r, i, 1, 1, 0, a, e0, n0, t0) :: st)) (h12 : st_w K ((r, i, 1, 1, 0, a, e0, n0, t0) :: st) ≤ 12) (hq : q ≤ 300) (hk : K (40 * r + i) = 14) : GD f_expectedCount f_draftLength f_latestPlace f_place f_result f_thrown K V Z HB EX KY U LY VY B OP LN ((r, i, 1, 1, 0, a, e0, n0, t0) :: st) 0 n v t s q va ou := by
  obtain ⟨b1, b2, b3, b4, b5, b6, b7, hr, hi⟩ := wf_bd P W h12
  obtain ⟨hok, _, _⟩ := pg_tok P hr hi
  have hn : tk_np (K (40 * r + i)) (V (40 * r + i)) = 2 := by rw [hk]; rfl
  have h1 : fr_ix (K (40 * r + i)) (V (40 * r + i)) 1 = 1 := by rw [hk]; rfl
  have h2 : fr_ix (K (40 * r + i)) (V (40 * r + i)) 2 = 2 := by rw [hk]; rfl
  have hcs : fr_cs (K (40 * r + i)) 1 = 1 := by rw [hk]; rfl
  have pl : tk_plain (K (40 * r + i)) := by rw [hk]; exact ⟨by decide, by decide, by decide, by decide⟩
  have mm := ph_part P hr hi (p := 1) (p' := 2) (o := 1) (by omega) (by omega) (by omega) (by omega) (by omega) (by omega)
  have fk : ¬ (K (40 * r + i) = 2 ∨ K (40 * r + i) = 3 ∨ K (40 * r + i) = 4 ∨ K (40 * r + i) = 5 ∨ K (40 * r + i) = 6) := by rw [hk]; decide
  refine g_part P E W h12 hq (o := 1) (p' := 2) (y' := 2) (q' := q) (by omega) (fun z => by omega) (fun z => pl.1 z.1) (by omega) (by omega) (Or.inr (Or.inr (Or.inr ⟨pl.2.2.2, pl.2.1, pl.2.2.1, pl.1, rfl, rfl, by omega, by omega⟩))) (by rw [hk]; rfl) (fr_b_k fk) (fr_b_k fk) hq (by omega) ?_ ?_
  · intro ET EP KE KN KV post sT sP h
    exact xn_plain b2 (by omega) sT sP hok pl (xp_push P hr hi b2 sT (by omega) (h _ _ _ pk_us (fun q hq => pk_un (by omega)) (fun q hq => pk_un (by omega))))
  · intro hd tg kd wo TK HT PH TG HW KS WR VL BG post yT yP e1 e2 _ h
    rw [if_neg (fun z => by omega)] at e1
    subst e1
    exact yw_s (by omega) (by omega) yT ((E r hr i hi).1.trans hk) yP (by decide) (by decide) (by decide) (yt_seq P hr hi (by omega) (by omega) yT (by omega) h)
/-- WHILE: its statement -/
theorem g_while1 (P : pg_T K V Z U B LN) (E : pg_E K V KY VY LN) (W : st_wf K V U LN ((r, i, 1, 1, 0, a, e0, n0, t0) :: st)) (h12 : st_w K ((r, i, 1, 1, 0, a, e0, n0, t0) :: st) ≤ 12) (hq : q ≤ 300) (hk : K (40 * r + i) = 13) (hv : ¬ v = 0) : GD f_expectedCount f_draftLength f_latestPlace f_place f_result f_thrown K V Z HB EX KY U LY VY B OP LN ((r, i, 1, 1, 0, a, e0, n0, t0) :: st) 0 n v t s q va ou := by
  obtain ⟨b1, b2, b3, b4, b5, b6, b7, hr, hi⟩ := wf_bd P W h12
  have hn : tk_np (K (40 * r + i)) (V (40 * r + i)) = 2 := by rw [hk]; rfl
  have h1 : fr_ix (K (40 * r + i)) (V (40 * r + i)) 1 = 1 := by rw [hk]; rfl
  have h2 : fr_ix (K (40 * r + i)) (V (40 * r + i)) 2 = 2 := by rw [hk]; rfl
  have hcs : fr_cs (K (40 * r + i)) 1 = 0 := by rw [hk]; rfl
  have mm := ph_part P hr hi (p := 1) (p' := 2) (o := 1) (by omega) (by omega) (by omega) (by omega) (by omega) (by omega)
  have fk : ¬ (K (40 * r + i) = 2 ∨ K (40 * r + i) = 3 ∨ K (40 * r + i) = 4 ∨ K (40 * r + i) = 5 ∨ K (40 * r + i) = 6) := by rw [hk]; decide
  refine g_part P E W h12 hq (o := 1) (p' := 2) (y' := 2) (q' := q) (by omega) (fun z => by omega) (fun z => absurd (hk.symm.trans z.1) (by decide)) (by omega) (by omega) (Or.inr (Or.inr (Or.inl ⟨Or.inl hk, rfl, by omega, rfl⟩))) (by rw [hk]; rfl) (fr_b_k fk) (fr_b_k fk) hq (by omega) ?_ ?_
  · intro ET EP KE KN KV post sT sP h
    exact xn_while b2 (by omega) sT sP hk (xw_1go P hr hi hk b2 sT hv (h _ _ _ pk_us (fun q hq => pk_un (by omega)) (fun _ _ => rfl)))
  · intro hd tg kd wo TK HT PH TG HW KS WR VL BG post yT yP e1 e2 _ h
    rw [if_pos ⟨rfl, by omega, hcs⟩] at e1
    subst e1
    have e3 := e2 rfl (by omega) hcs
    exact yw_w (by omega) (by omega) yT ((E r hr i hi).1.trans hk) yP (yq_1g P hr hi (by omega) (by omega) yT (by omega) (by rw [e3]; exact hv) h)
/-- TRY: its statement -/
theorem g_try0 (P : pg_T K V Z U B LN) (E : pg_E K V KY VY LN) (W : st_wf K V U LN ((r, i, 0, 0, 0, a, e0, n0, t0) :: st)) (h12 : st_w K ((r, i, 0, 0, 0, a, e0, n0, t0) :: st) ≤ 12) (hq : q ≤ 300) (hk : K (40 * r + i) = 17) : GD f_expectedCount f_draftLength f_latestPlace f_place f_result f_thrown K V Z HB EX KY U LY VY B OP LN ((r, i, 0, 0, 0, a, e0, n0, t0) :: st) 0 n v t s q va ou := by
  obtain ⟨b1, b2, b3, b4, b5, b6, b7, hr, hi⟩ := wf_bd P W h12
  have hn : 1 ≤ tk_np (K (40 * r + i)) (V (40 * r + i)) := by rw [hk]; unfold tk_np; rw [if_pos rfl]; omega
  have h1 : fr_ix (K (40 * r + i)) (V (40 * r + i)) 1 = 1 := by rw [hk]; rfl
  have mm := ph_part P hr hi (p := 0) (p' := 1) (o := 0) (by omega) (by rw [fr_ix0]; exact Nat.le_refl _) (by omega) (by omega) (by omega) (by omega)
  refine g_part P E W h12 hq (o := 0) (p' := 1) (y' := 1) (q' := q) (by omega) (fun z => by omega) (fun z => by omega) (by omega) (by omega) (Or.inl ⟨hk, Or.inr (Or.inl ⟨rfl, rfl, rfl⟩)⟩) (by rw [hk]; rfl) (fr_b_n (by omega)) (fr_b_n (by omega)) hq (by omega) ?_ ?_
  · intro ET EP KE KN KV post sT sP h
    exact xn_try b2 (by omega) sT sP hk (xt_0 b2 sT (h _ _ _ pk_us (fun q hq => pk_un (by omega)) (fun _ _ => rfl)))
  · intro hd tg kd wo TK HT PH TG HW KS WR VL BG post yT yP e1 _ _ h
    rw [if_neg (fun z => by omega)] at e1
    subst e1
    exact yw_t (by omega) (by omega) yT ((E r hr i hi).1.trans hk) yP (yz_0 P E hr hi (by omega) (by omega) yT (by omega) h)
/-- WHILE: a step, and its condition -/
theorem g_wstep (P : pg_T K V Z U B LN) (E : pg_E K V KY VY LN) (W : st_wf K V U LN ((r, i, p, y, 0, a, e0, n0, t0) :: st)) (h12 : st_w K ((r, i, p, y, 0, a, e0, n0, t0) :: st) ≤ 12) (hq : q ≤ 300) (hk : K (40 * r + i) = 13) (hy : y = p) (hp : p = 0 ∧ e = 0 ∨ p = 2 ∧ (e = 0 ∨ (e = 2 ∧ n = V (40 * r + i) ∧ t = i))) (hq3 : q < 300) : GD f_expectedCount f_draftLength f_latestPlace f_place f_result f_thrown K V Z HB EX KY U LY VY B OP LN ((r, i, p, y, 0, a, e0, n0, t0) :: st) e n v t s q va ou := by
  obtain ⟨b1, b2, b3, b4, b5, b6, b7, hr, hi⟩ := wf_bd P W h12
  subst hy
  have hn : tk_np (K (40 * r + i)) (V (40 * r + i)) = 2 := by rw [hk]; rfl
  have mm := ph_again P hr hi hk 0
  have n8 : ∀ x, ¬ (K (40 * r + i) = 8 ∧ x = 2) := fun x z => absurd (hk.symm.trans z.1) (by decide)
  have fk : ¬ (K (40 * r + i) = 2 ∨ K (40 * r + i) = 3 ∨ K (40 * r + i) = 4 ∨ K (40 * r + i) = 5 ∨ K (40 * r + i) = 6) := by rw [hk]; decide
  have fp := ph_F_pos (K := K) (V := V) (Z := Z) (r := r) (i := i) (p := y) (by omega)
  have hcs : y = 2 → fr_cs (K (40 * r + i)) y = 1 := by rintro rfl; rw [hk]; rfl
  refine g_part P E W h12 hq (o := 0) (p' := 1) (y' := 1) (q' := q + 1) (by omega) (n8 _) (n8 _) (by omega) (by omega) (Or.inr (Or.inr (Or.inl ⟨Or.inl hk, rfl, by omega, rfl⟩))) (by rw [hk]; rfl) (fr_b_k fk) (fr_b_k fk) (by omega) (by omega) ?_ ?_
  · intro ET EP KE KN KV post sT sP h
    have hj : 40 * r + i < 200 := by omega
    rcases hp with ⟨rfl, rfl⟩ | ⟨rfl, hp⟩
    · exact xn_while b2 hj sT sP hk (xw_0 b2 hj sT (xw_step b2 hq3 (h _ _ _ pk_us (fun q hq => by rw [pk_un (by omega), pk_un (by omega)]) (fun _ _ => rfl))))
    · exact xn_while b2 hj sT sP hk (xw_2go b2 hj sT (hp.imp id (fun z => ⟨z.1, z.2.1⟩)) (xw_step b2 hq3 (h _ _ _ pk_us (fun q hq => by rw [pk_un (by omega), pk_un (by omega)]) (fun _ _ => rfl))))
  · intro hd tg kd wo TK HT PH TG HW KS WR VL BG post yT yP e1 e2 e3 h
    have nz : ¬ (e = 0 ∧ 1 ≤ y ∧ fr_cs (K (40 * r + i)) y = 0) := by
      rintro ⟨_, z1, z2⟩
      have : y = 2 := by omega
      have := hcs this
      omega
    rw [if_neg nz] at e1
    subst e1
    have g := yq_step (post := post) (f_ended := e) P hr hi hq3 (T := st_y st) (by omega) (hh := st_h K st) (by omega) yT (by omega) h
    rcases hp with ⟨rfl, rfl⟩ | ⟨rfl, rfl | ⟨rfl, _, ti⟩⟩
    · exact yw_w (by omega) (by omega) yT ((E r hr i hi).1.trans hk) yP (yq_0 g)
    · exact yw_w (by omega) (by omega) yT ((E r hr i hi).1.trans hk) yP (yq_2n g)
    · have e4 := e3 (Or.inr rfl)
      rw [ti] at e4
      subst e4
      exact yw_w (by omega) (by omega) yT ((E r hr i hi).1.trans hk) yP (yq_2c g)
end
end
section
section
variable {f_expectedCount f_draftLength f_latestPlace f_place f_result f_thrown : Int32} {K V Z HB EX KY U LY VY B OP va ou : Nat → Int32} {LN : Nat → Nat} {r i p y c : Nat} {a e0 n0 e n v : Int32} {t0 t s q : Nat} {st : List Fr}
/-- CALL: the function begins -/
theorem g_begin (P : pg_T K V Z U B LN) (E : pg_E K V KY VY LN) (W : st_wf K V U LN ((r, i, 1, 1, 0, a, e0, n0, t0) :: st)) (h12 : st_w K ((r, i, 1, 1, 0, a, e0, n0, t0) :: st) ≤ 12) (hq : q ≤ 300) (hk : K (40 * r + i) = 8) {f : Nat} (hf : f < 4) (hv : V (40 * r + i) = nI f) (hL : 1 ≤ LN f) (hb : HB f = 1) (hl : ¬ LY f = 0) (hq3 : q < 300) (hw : st_w K st < 12) : GD f_expectedCount f_draftLength f_latestPlace f_place f_result f_thrown K V Z HB EX KY U LY VY B OP LN ((r, i, 1, 1, 0, a, e0, n0, t0) :: st) 0 n v t s q va ou := by
  obtain ⟨b1, b2, b3, b4, b5, b6, b7, hr, hi⟩ := wf_bd P W h12
  obtain ⟨hok, _, _⟩ := pg_tok P hr hi
  have hn : tk_np (K (40 * r + i)) (V (40 * r + i)) = 1 := by rw [hk]; rfl
  obtain ⟨wf, ww⟩ := wf_call P W hk hf hL (a' := a) (e' := e0) (n' := n0) (t' := t0)
  have eR : st_w K ((r, i, 1, 1, 0, a, e0, n0, t0) :: st) = st_w K st := st_w_n (fun z => by omega)
  have eN : st_w K ((r, i, 2, 2, 0, a, e0, n0, t0) :: st) = st_w K st + 1 := by show _ + _ = _; rw [if_pos ⟨hk, rfl⟩]
  have fk : ¬ (K (40 * r + i) = 2 ∨ K (40 * r + i) = 3 ∨ K (40 * r + i) = 4 ∨ K (40 * r + i) = 5 ∨ K (40 * r + i) = 6) := by rw [hk]; decide
  have hN : st_h K ((r, i, 2, 2, 0, a, e0, n0, t0) :: st) = st_h K st := st_h_n (fr_b_k fk)
  have hR : st_h K ((r, i, 1, 1, 0, a, e0, n0, t0) :: st) = st_h K st := st_h_n (fr_b_k fk)
  have hcs : fr_cs (K (40 * r + i)) 1 = 0 := by rw [hk]; rfl
  have m0 := ph_F_le P hf (i := 0) (by omega) 0
  have m2 : ph_F K V Z r i 2 + 1 = ph_F K V Z r i 1 := by
    have h1 : fr_ix (K (40 * r + i)) (V (40 * r + i)) 1 = 1 := by rw [hk]; rfl
    have h2 : fr_ix (K (40 * r + i)) (V (40 * r + i)) 2 = 1 := by rw [hk]; rfl
    unfold ph_F
    rw [h1, h2]
  refine g_pushed P (n' := n) (v' := v) (t' := t) (s' := s) (q' := q + 1) (va' := vset va (st_w K st) v) (ou' := ou) wf (by rw [ww]; omega) (by omega) (by omega) (by omega) b2 ?_ (g_y1 b1 ?_)
  · intro ET EP KE KN KV post hS h
    obtain ⟨s0, sT, sP, s3, sb⟩ := hS
    rw [eR]
    rw [eN] at h
    exact xn_call b2 (by omega) sT sP hk (xc_1go b2 (by omega) sT hv (xb_go hf hb hq3 hw (h _ _ _ _ _ ⟨sx_keep st (fun _ _ => rfl) (fun q hq => pk_un (by omega)) (fun _ _ => rfl) (fun _ _ => rfl) (fun _ _ => rfl) s0, sT, pk_us, fun z => by omega, fun z => by rw [fr_b_k fk] at z; omega⟩)))
  · intro hd tg kd wo TK HT PH TG HW KS WR VL BG post hS hT h
    obtain ⟨y0, yT, yH, yP, yC, yV, y3, yB⟩ := hS
    rw [eR]
    rw [eN, hN] at h
    have hT1 := hT.1
    have hT2 := hT.2.1 rfl (by omega) hcs
    rw [hR, if_pos ⟨rfl, by omega, hcs⟩] at hT1
    rw [hR] at hT2
    subst hT1
    subst hT2
    refine yw_x (by omega) (by omega) yT ((E r hr i hi).1.trans hk) yP (by decide) (ye_in (hk ▸ hok) (by decide) (fun _ => by omega) (by omega) ?_)
    rw [hk] at hn
    rw [hn]
    refine yc_go (by omega) (by omega) (by omega) hf hq3 hw ((E r hr i hi).2.trans hv) hl ?_
    exact h (upd PH (st_y st) 2) TG HW KS WR (upd BG (st_y st) 1) ⟨sy_keep st (fun _ _ => rfl) (fun _ _ => rfl) (fun q hq => pk_un (by omega)) (fun _ _ => rfl) (fun _ _ => rfl) (fun _ _ => rfl) (fun _ _ => rfl) (fun _ _ => rfl) (fun q hq => pk_un (by omega)) y0, yT, yH, pk_us, fun z => (z rfl).elim, fun z => by rw [fr_b_k fk] at z; omega, fun z => by omega, fun _ _ => pk_us⟩
/-- how Y puts an ending aside -/
theorem en_aside (P : pg_T K V Z U B LN) {rr ii : Nat} (hr : rr < 4) (hi : ii < LN rr) (he : en_ok K V U rr ii e n t) {kd tg : Int32} (h12 : (e = 1 ∨ e = 2) → tg = nI (40 * rr + t)) (h4 : e = 4 → kd = n) : vp_nar .byte e.toInt8.toInt32 = e ∧ ((e = 1 ∨ e = 2) → vp_nar .short tg.toInt16.toInt32 = nI (40 * rr + t)) ∧ (e = 4 → vp_nar .byte kd.toInt8.toInt32 = n) := by
  obtain ⟨h1, h2, h3⟩ := he
  have hL := (P rr hr (by omega)).2.1
  refine ⟨?_, fun z => ?_, fun z => ?_⟩
  · rcases h1 with rfl | rfl | rfl | rfl | rfl
    · exact qb_nb8 (n := 0) (by decide)
    · exact qb_nb8 (n := 1) (by decide)
    · exact qb_nb8 (n := 2) (by decide)
    · exact qb_nb8 (n := 3) (by decide)
    · exact qb_nb8 (n := 4) (by decide)
  · have := (tr_NL_le (h2 z)).1
    rw [h12 z]
    exact qb_ns16 (by omega)
  · obtain ⟨m, hm, rfl⟩ := h3 z
    rw [h4 z]
    exact qb_nb8 (by omega)
/-- TRY: its finally part, behind the statement -/
theorem g_fin1 (P : pg_T K V Z U B LN) (E : pg_E K V KY VY LN) (W : st_wf K V U LN ((r, i, 1, 1, 0, a, e0, n0, t0) :: st)) (h12 : st_w K ((r, i, 1, 1, 0, a, e0, n0, t0) :: st) ≤ 12) (hq : q ≤ 300) (he : en_ok K V U r i e n t) (hk : K (40 * r + i) = 17) (hf : tk_fn (V (40 * r + i)) = 1) (hno : e = 4 → ∀ b, 1 ≤ b → b ≤ tk_cn (V (40 * r + i)) → ¬ ct_m V Z r i n b) : GD f_expectedCount f_draftLength f_latestPlace f_place f_result f_thrown K V Z HB EX KY U LY VY B OP LN ((r, i, 1, 1, 0, a, e0, n0, t0) :: st) e n v t s q va ou := by
  obtain ⟨b1, b2, b3, b4, b5, b6, b7, hr, hi⟩ := wf_bd P W h12
  obtain ⟨hok, _, _⟩ := pg_tok P hr hi
  have hn : tk_np (K (40 * r + i)) (V (40 * r + i)) = 1 + tk_cn (V (40 * r + i)) + 1 := by rw [hk]; unfold tk_np; rw [if_pos rfl, hf]
  have h1 : fr_ix (K (40 * r + i)) (V (40 * r + i)) 1 = 1 := by rw [hk]; rfl
  have h3 : fr_ix (K (40 * r + i)) (V (40 * r + i)) 3 = tk_np (K (40 * r + i)) (V (40 * r + i)) := by rw [hk]; rfl
  have n8 : ∀ x, ¬ (K (40 * r + i) = 8 ∧ x = 2) := fun x z => absurd (hk.symm.trans z.1) (by decide)
  have fk : ¬ (K (40 * r + i) = 2 ∨ K (40 * r + i) = 3 ∨ K (40 * r + i) = 4 ∨ K (40 * r + i) = 5 ∨ K (40 * r + i) = 6) := by rw [hk]; decide
  have hwt : tk_wt (K (40 * r + i)) (V (40 * r + i)) (1 + tk_cn (V (40 * r + i))) = fr_cs (K (40 * r + i)) 3 := by
    rw [hk]
    unfold tk_wt
    rw [if_pos rfl, if_neg (by omega)]
    rfl
  have hcs : fr_cs (K (40 * r + i)) 1 = 1 := by rw [hk]; rfl
  obtain ⟨wf, ww⟩ := wf_part P W (o := 1 + tk_cn (V (40 * r + i))) (p' := 3) (y' := 4) (a' := v) (e' := e) (n' := n) (t' := t) (by omega) (n8 _) (by omega) (Or.inl ⟨hk, Or.inr (Or.inr (Or.inr ⟨rfl, rfl, rfl, hf⟩))⟩) hwt (fun _ => he)
  have mm := ph_part P hr hi (p := 1) (p' := 3) (o := 1 + tk_cn (V (40 * r + i))) (by omega) (by omega) (by omega) (by omega) (by omega) (by omega)
  have eR : st_w K ((r, i, 1, 1, 0, a, e0, n0, t0) :: st) = st_w K st := st_w_n (n8 _)
  have eN : st_w K ((r, i, 3, 4, 0, v, e, n, t) :: st) = st_w K st := st_w_n (n8 _)
  have hN : st_h K ((r, i, 3, 4, 0, v, e, n, t) :: st) = st_h K st := st_h_n (fr_b_k fk)
  have hR : st_h K ((r, i, 1, 1, 0, a, e0, n0, t0) :: st) = st_h K st := st_h_n (fr_b_k fk)
  refine g_pushed P (n' := n) (v' := v) (t' := t) (s' := s) (q' := q) (va' := va) (ou' := ou) wf (by rw [ww]; exact b6) hq (by omega) (by omega) b2 ?_ (g_y1 b1 ?_)
  · intro ET EP KE KN KV post hS h
    obtain ⟨s0, sT, sP, s3, sb⟩ := hS
    rw [eR]
    rw [eN] at h
    have g : wX_nextOfTry_81 post (nI st.length) (nI (40 * r + i)) f_expectedCount f_draftLength f_latestPlace (nI (st.length + 1)) (nI (st_w K st)) e n v (nI s) (nI q) 0 0 (-1) K V Z HB EX ET (upd EP st.length (nI (1 + 1))) KE KN KV va ou := xt_81f P hr hi hk b2 hf (h _ _ _ _ _ ⟨sx_keep st (fun _ _ => rfl) (fun q hq => by rw [pk_un (by omega), pk_un (by omega)]) (fun q hq => pk_un (by omega)) (fun q hq => pk_un (by omega)) (fun q hq => pk_un (by omega)) s0, sT, pk_us, fun _ => ⟨pk_us, pk_us, pk_us⟩, fun z => by rw [fr_b_k fk] at z; omega⟩)
    refine xn_try b2 (by omega) sT sP hk ?_
    by_cases h4 : e = 4
    · subst h4
      refine xt_hand P hr hi hk b2 sT b7 b6 (fun c m c1 c2 cm _ _ _ => (hno rfl c c1 c2 cm).elim) (fun _ => g)
    · exact xt_1 b2 sT h4 g
  · intro hd tg kd wo TK HT PH TG HW KS WR VL BG post hS hT h
    obtain ⟨y0, yT, yH, yP, yC, yV, y3, yB⟩ := hS
    rw [eR]
    rw [eN, hN] at h
    obtain ⟨hT1, _, hT12, hT34, hT4⟩ := hT
    rw [hR, if_neg (fun z => by omega)] at hT1
    subst hT1
    obtain ⟨q1, q2, q3⟩ := en_aside P hr hi he hT12 hT4
    have g : wY_attempt_47 post (nI (40 * r + i)) (nI 1) (nI (tk_cn (V (40 * r + i)))) (nI (1 + tk_cn (V (40 * r + i)))) 0 f_place (nI (st_y st + 1)) (nI (st_h K st)) (nI (st_w K st)) e tg kd wo (nI q) (nI s) f_result f_thrown 0 KY U LY VY B OP TK HT TG PH HW KS WR VL va BG ou := by
      refine yz_fin P E hr hi hk (by omega) (by omega) hf (by omega) (by omega) yT ?_
      have e5 : upd (upd (upd PH (st_y st) (nI (1 + tk_cn (V (40 * r + i)) + 1))) (st_y st + 1) 0) (st_y st) 4 = upd (upd PH (st_y st) 4) (st_y st + 1) 0 := by
        funext z
        unfold upd
        by_cases z1 : z = st_y st
        · rw [if_pos z1, if_neg (by omega), if_pos z1]
        · rw [if_neg z1]
          by_cases z2 : z = st_y st + 1
          · rw [if_pos z2, if_pos z2]
          · rw [if_neg z2, if_neg z2, if_neg z1, if_neg z1]
      rw [e5]
      exact h _ _ _ _ _ _ ⟨sy_keep st (fun _ _ => rfl) (fun _ _ => rfl) (fun q hq => pk_un (by omega)) (fun q hq => pk_un (by omega)) (fun q hq => pk_un (by omega)) (fun q hq => pk_un (by omega)) (fun q hq => pk_un (by omega)) (fun _ _ => rfl) (fun _ _ => rfl) y0, yT, yH, pk_us, fun z => (z rfl).elim, fun z => by rw [fr_b_k fk] at z; omega, fun _ => ⟨pk_us.trans q1, fun z => pk_us.trans (q2 z), fun z => pk_us.trans (hT34 z), fun z => pk_us.trans (q3 z)⟩, fun z => absurd (hk.symm.trans z) (by decide)⟩
    refine yw_t (by omega) (by omega) yT ((E r hr i hi).1.trans hk) yP ?_
    by_cases h4 : e = 4
    · subst h4
      have := hT4 rfl
      subst this
      exact yz_nohand P E hr hi hk (hno rfl) g
    · exact yz_46 P E hr hi hk (by omega) (by omega) (fun _ => h4) g
end
end
section
section
variable {f_expectedCount f_draftLength f_latestPlace f_place f_result f_thrown : Int32} {K V Z HB EX KY U LY VY B OP va ou : Nat → Int32} {LN : Nat → Nat} {r i p y c : Nat} {a e0 n0 e n v : Int32} {t0 t s q : Nat} {st : List Fr}
theorem st_y2 (hc : 1 ≤ c) : st_y ((r, i, p, y, c, a, e0, n0, t0) :: st) = st_y st + 1 + 1 := by
  show st_y st + _ = _
  rw [if_neg (by omega)]
theorem ct_one {c c' : Nat} (c1 : 1 ≤ c) (cm : ct_m V Z r i n c) (cf : ∀ b, 1 ≤ b → b < c → ¬ ct_m V Z r i n b) (c1' : 1 ≤ c') (cm' : ct_m V Z r i n c') (cf' : ∀ b, 1 ≤ b → b < c' → ¬ ct_m V Z r i n b) : c' = c := by
  rcases Nat.lt_trichotomy c' c with z | z | z
  · exact (cf c' c1' z cm').elim
  · exact z
  · exact (cf' c c1 z cm).elim
/-- TRY: a catch takes the exception -/
theorem g_hand (P : pg_T K V Z U B LN) (E : pg_E K V KY VY LN) (W : st_wf K V U LN ((r, i, 1, 1, 0, a, e0, n0, t0) :: st)) (h12 : st_w K ((r, i, 1, 1, 0, a, e0, n0, t0) :: st) ≤ 12) (hq : q ≤ 300) (hk : K (40 * r + i) = 17) {c : Nat} (c1 : 1 ≤ c) (c2 : c ≤ tk_cn (V (40 * r + i))) (cm : ct_m V Z r i n c) (cf : ∀ b, 1 ≤ b → b < c → ¬ ct_m V Z r i n b) : GD f_expectedCount f_draftLength f_latestPlace f_place f_result f_thrown K V Z HB EX KY U LY VY B OP LN ((r, i, 1, 1, 0, a, e0, n0, t0) :: st) 4 n v t s q va ou := by
  obtain ⟨b1, b2, b3, b4, b5, b6, b7, hr, hi⟩ := wf_bd P W h12
  obtain ⟨t1, t2, t3, t4, t5, t6, t7, t8, t9, t10⟩ := tr_catch P hr hi hk c1 c2
  have Tr := P r hr (by omega)
  have hL := Tr.2.1
  have hcn := tk_cn_le (V (40 * r + i))
  have hokc : tk_ok (K (40 * r + tr_ca (ro Z r) i c)) (V (40 * r + tr_ca (ro Z r) i c)) := (Tr.2.2.2 _ t2).1
  rw [t3] at hokc
  obtain ⟨m, hm, em, _⟩ := tk_cat hokc
  obtain ⟨wf, ww⟩ := wf_hand P W hk c1 c2 (a' := a) (e' := e0) (n' := n0) (t' := t0)
  have n8 : ∀ x, ¬ (K (40 * r + i) = 8 ∧ x = 2) := fun x z => absurd (hk.symm.trans z.1) (by decide)
  have fk : ¬ (K (40 * r + i) = 2 ∨ K (40 * r + i) = 3 ∨ K (40 * r + i) = 4 ∨ K (40 * r + i) = 5 ∨ K (40 * r + i) = 6) := by rw [hk]; decide
  have eR : st_w K ((r, i, 1, 1, 0, a, e0, n0, t0) :: st) = st_w K st := st_w_n (n8 _)
  have eN : st_w K ((r, i, 2, c + 1, c, a, e0, n0, t0) :: st) = st_w K st := st_w_n (n8 _)
  have hN : st_h K ((r, i, 2, c + 1, c, a, e0, n0, t0) :: st) = st_h K st := st_h_n (fr_b_k fk)
  have hR : st_h K ((r, i, 1, 1, 0, a, e0, n0, t0) :: st) = st_h K st := st_h_n (fr_b_k fk)
  have eY : st_y ((r, i, 2, c + 1, c, a, e0, n0, t0) :: st) = st_y st + 1 + 1 := st_y2 c1
  have h1 : fr_ix (K (40 * r + i)) (V (40 * r + i)) 1 = 1 := by rw [hk]; rfl
  have h2 : fr_ix (K (40 * r + i)) (V (40 * r + i)) 2 = 1 + tk_cn (V (40 * r + i)) := by rw [hk]; rfl
  have hn : 1 + tk_cn (V (40 * r + i)) ≤ tk_np (K (40 * r + i)) (V (40 * r + i)) := by rw [hk]; unfold tk_np; rw [if_pos rfl]; omega
  obtain ⟨sz, z1, z2, z3, z4, z5⟩ := tr_sz Tr t4
  have z5' : (Z (40 * r + (tr_ca (ro Z r) i c + 1))).toNatClampNeg = sz := z5
  have mm := ph_push P hr hi (p := 1) (p' := 2) (o := c) (j := tr_ca (ro Z r) i c + 1) z5' z2 t1 (by omega) (by omega) (by omega) (by omega) (by omega) (by omega) (by rw [t9, z5']; exact Nat.le_refl _)
  refine g_pushed P (n' := n) (v' := v) (t' := t) (s' := s) (q' := q) (va' := upd va (6 * (st_w K st - 1) + m / 8) v) (ou' := ou) wf (by rw [ww]; exact b6) hq (by omega) (by omega) b2 ?_ ⟨2, ?_⟩
  · intro ET EP KE KN KV post hS h
    obtain ⟨s0, sT, sP, s3, sb⟩ := hS
    rw [eR]
    rw [eN] at h
    refine xn_try b2 (by omega) sT sP hk (xt_hand P hr hi hk b2 sT b7 b6 (fun c' m' c1' c2' cm' cf' em' hm' => ?_) (fun hno => (hno c c1 c2 cm).elim))
    have := ct_one c1 cm cf c1' cm' cf'
    subst this
    have : m' = m := (nI_eq (by omega) (by omega)).mp (em'.symm.trans em)
    subst this
    exact h _ _ _ _ _ ⟨sx_keep st (fun _ _ => rfl) (fun q hq => pk_un (by omega)) (fun _ _ => rfl) (fun _ _ => rfl) (fun _ _ => rfl) s0, sT, pk_us, fun z => by omega, fun z => by rw [fr_b_k fk] at z; omega⟩
  · intro post mm h hd tg kd wo TK HT PH TG HW KS WR VL BG hS hT
    obtain ⟨y0, yT, yH, yP, yC, yV, y3, yB⟩ := hS
    obtain ⟨hT1, _, _, hT34, hT4⟩ := hT
    rw [hR, if_neg (fun z => absurd z.1 (by decide))] at hT1
    subst hT1
    have ew := hT34 (Or.inr rfl)
    have ek := hT4 rfl
    subst ew ek
    rw [eR]
    refine ys_enter (m := mm + 1) (T := st_y st) (by omega) (yw_t (by omega) (by omega) yT ((E r hr i hi).1.trans hk) yP (yz_hand P E hr hi hk b7 b6 c1 c2 cm cf em hm (by omega) (by omega) yT ?_))
    refine ys_enter (m := mm) (T := st_y st + 1) (by omega) (yw_s (k := 18) (y := 0) (j := 40 * r + tr_ca (ro Z r) i c) (by omega) (by omega) pk_us ((E r hr _ t2).1.trans t3) pk_us (by decide) (by decide) (by decide) (yt_first P hr t2 (by omega) (by omega) pk_us (by rw [t3]; exact Nat.le_refl 1) ?_ (by decide)))
    have g := yk_push (tg := tg) (kd := kd) (wo := wo) (st := (r, i, 2, c + 1, c, a, e0, n0, t0) :: st) (TK := upd TK (st_y st + 1) (nI (40 * r + tr_ca (ro Z r) i c))) (HT := upd HT (st_y st + 1) (nI (st_h K st))) (PH := upd (upd (upd PH (st_y st) (nI (c + 1))) (st_y st + 1) 0) (st_y st + 1) 1) (TG := TG) (HW := HW) (KS := KS) (WR := WR) (VL := VL) (BG := BG) ⟨sy_keep st (fun q hq => pk_un (by omega)) (fun q hq => pk_un (by omega)) (fun q hq => by rw [pk_un (by omega), pk_un (by omega), pk_un (by omega)]) (fun _ _ => rfl) (fun _ _ => rfl) (fun _ _ => rfl) (fun _ _ => rfl) (fun _ _ => rfl) (fun _ _ => rfl) y0, (pk_un (by omega)).trans yT, (pk_un (by omega)).trans yH, by rw [pk_un (by omega), pk_un (by omega), pk_us], fun _ => ⟨pk_us, pk_us, pk_us⟩, fun z => by rw [fr_b_k fk] at z; omega, fun z => by omega, fun z => absurd (hk.symm.trans z) (by decide)⟩ h
    rw [eY, eN, hN] at g
    exact g
/-- Y: the catch that has done its work goes -/
theorem y_catch (P : pg_T K V Z U B LN) (E : pg_E K V KY VY LN) (W : st_wf K V U LN ((r, i, 2, c + 1, c, a, e0, n0, t0) :: st)) (h12 : st_w K ((r, i, 2, c + 1, c, a, e0, n0, t0) :: st) ≤ 12) (hk : K (40 * r + i) = 17) (c1 : 1 ≤ c) (c2 : c ≤ tk_cn (V (40 * r + i))) {hd tg kd wo : Int32} {TK HT PH TG HW KS WR VL BG : Nat → Int32} {post : Int32 → SY → Prop} {m : Nat} (hS : sy_S K Z TK HT PH TG HW KS WR VL BG ((r, i, 2, c + 1, c, a, e0, n0, t0) :: st)) (h : wpY_work (yc_K post m) (f_place, nI (st_y st + 1), nI (st_h K st), nI (st_w K st), e, tg, kd, wo, nI q, nI s, f_result, f_thrown, 0, KY, U, LY, VY, B, OP, TK, HT, TG, PH, HW, KS, WR, VL, va, BG, ou)) : wY_run_51 post (m + 1 + 1) f_place (nI (st_y ((r, i, 2, c + 1, c, a, e0, n0, t0) :: st))) hd (nI (st_w K ((r, i, 2, c + 1, c, a, e0, n0, t0) :: st))) e tg kd wo (nI q) (nI s) f_result f_thrown 0 KY U LY VY B OP TK HT TG PH HW KS WR VL va BG ou := by
  obtain ⟨b1, b2, b3, b4, b5, b6, b7, hr, hi⟩ := wf_bd P W h12
  obtain ⟨y0, yT, yH, yP, yC, yV, y3, yB⟩ := hS
  obtain ⟨yC1, yC2, yC3⟩ := yC (by omega)
  obtain ⟨t1, t2, t3, t4, t5, t6, t7, t8, t9, t10⟩ := tr_catch P hr hi hk c1 c2
  have Tr := P r hr (by omega)
  have hL := Tr.2.1
  rw [st_y2 c1, st_w_n (fun z => absurd (hk.symm.trans z.1) (by decide))]
  have nx : yc_K post (m + 1) (f_place, nI (st_y st + 1), nI (st_h K st), nI (st_w K st), e, tg, kd, wo, nI q, nI s, f_result, f_thrown, 0, KY, U, LY, VY, B, OP, TK, HT, TG, PH, HW, KS, WR, VL, va, BG, ou) := ys_enter (T := st_y st) (by omega) h
  refine ys_enter (m := m + 1) (T := st_y st + 1) (by omega) (yw_s (k := 18) (y := 1) (j := 40 * r + tr_ca (ro Z r) i c) (by omega) (by omega) yC1 ((E r hr _ t2).1.trans t3) yC3 (by decide) (by decide) (by decide) ?_)
  by_cases he : e = 0
  · subst he
    exact yt_end (by omega) yC2 nx (Or.inr (Or.inr ⟨rfl, rfl⟩))
  · exact yt_out (by omega) yC2 nx (by decide) (Or.inl rfl) he
/-- TRY: its finally part, behind a catch -/
theorem g_fin2 (P : pg_T K V Z U B LN) (E : pg_E K V KY VY LN) (W : st_wf K V U LN ((r, i, 2, c + 1, c, a, e0, n0, t0) :: st)) (h12 : st_w K ((r, i, 2, c + 1, c, a, e0, n0, t0) :: st) ≤ 12) (hq : q ≤ 300) (he : en_ok K V U r i e n t) (hk : K (40 * r + i) = 17) (c1 : 1 ≤ c) (c2 : c ≤ tk_cn (V (40 * r + i))) (hf : tk_fn (V (40 * r + i)) = 1) : GD f_expectedCount f_draftLength f_latestPlace f_place f_result f_thrown K V Z HB EX KY U LY VY B OP LN ((r, i, 2, c + 1, c, a, e0, n0, t0) :: st) e n v t s q va ou := by
  obtain ⟨b1, b2, b3, b4, b5, b6, b7, hr, hi⟩ := wf_bd P W h12
  obtain ⟨hok, _, _⟩ := pg_tok P hr hi
  have hcn := tk_cn_le (V (40 * r + i))
  have hn : tk_np (K (40 * r + i)) (V (40 * r + i)) = 1 + tk_cn (V (40 * r + i)) + 1 := by rw [hk]; unfold tk_np; rw [if_pos rfl, hf]
  have h2 : fr_ix (K (40 * r + i)) (V (40 * r + i)) 2 = 1 + tk_cn (V (40 * r + i)) := by rw [hk]; rfl
  have h3 : fr_ix (K (40 * r + i)) (V (40 * r + i)) 3 = tk_np (K (40 * r + i)) (V (40 * r + i)) := by rw [hk]; rfl
  have n8 : ∀ x, ¬ (K (40 * r + i) = 8 ∧ x = 2) := fun x z => absurd (hk.symm.trans z.1) (by decide)
  have fk : ¬ (K (40 * r + i) = 2 ∨ K (40 * r + i) = 3 ∨ K (40 * r + i) = 4 ∨ K (40 * r + i) = 5 ∨ K (40 * r + i) = 6) := by rw [hk]; decide
  have hwt : tk_wt (K (40 * r + i)) (V (40 * r + i)) (1 + tk_cn (V (40 * r + i))) = fr_cs (K (40 * r + i)) 3 := by
    rw [hk]
    unfold tk_wt
    rw [if_pos rfl, if_neg (by omega)]
    rfl
  have hcs : fr_cs (K (40 * r + i)) 2 = 1 := by rw [hk]; rfl
  obtain ⟨wf, ww⟩ := wf_part P W (o := 1 + tk_cn (V (40 * r + i))) (p' := 3) (y' := 4) (a' := v) (e' := e) (n' := n) (t' := t) (by omega) (n8 _) (by omega) (Or.inl ⟨hk, Or.inr (Or.inr (Or.inr ⟨rfl, rfl, rfl, hf⟩))⟩) hwt (fun _ => he)
  have mm := ph_part P hr hi (p := 2) (p' := 3) (o := 1 + tk_cn (V (40 * r + i))) (by omega) (by omega) (by omega) (by omega) (by omega) (by omega)
  have eR : st_w K ((r, i, 2, c + 1, c, a, e0, n0, t0) :: st) = st_w K st := st_w_n (n8 _)
  have eN : st_w K ((r, i, 3, 4, 0, v, e, n, t) :: st) = st_w K st := st_w_n (n8 _)
  have hN : st_h K ((r, i, 3, 4, 0, v, e, n, t) :: st) = st_h K st := st_h_n (fr_b_k fk)
  have hR : st_h K ((r, i, 2, c + 1, c, a, e0, n0, t0) :: st) = st_h K st := st_h_n (fr_b_k fk)
  refine g_pushed P (n' := n) (v' := v) (t' := t) (s' := s) (q' := q) (va' := va) (ou' := ou) wf (by rw [ww]; exact b6) hq (by omega) (by omega) b2 ?_ ⟨2, ?_⟩
  · intro ET EP KE KN KV post hS h
    obtain ⟨s0, sT, sP, s3, sb⟩ := hS
    rw [eR]
    rw [eN] at h
    exact xn_try b2 (by omega) sT sP hk (xt_2 b2 sT (xt_81f P hr hi hk b2 hf (h _ _ _ _ _ ⟨sx_keep st (fun _ _ => rfl) (fun q hq => by rw [pk_un (by omega), pk_un (by omega)]) (fun q hq => pk_un (by omega)) (fun q hq => pk_un (by omega)) (fun q hq => pk_un (by omega)) s0, sT, pk_us, fun _ => ⟨pk_us, pk_us, pk_us⟩, fun z => by rw [fr_b_k fk] at z; omega⟩)))
  · intro post mm h hd tg kd wo TK HT PH TG HW KS WR VL BG hS hT
    refine y_catch P E W h12 hk c1 c2 hS ?_
    obtain ⟨y0, yT, yH, yP, yC, yV, y3, yB⟩ := hS
    obtain ⟨hT1, _, hT12, hT34, hT4⟩ := hT
    obtain ⟨q1, q2, q3⟩ := en_aside P hr hi he hT12 hT4
    refine yw_t (by omega) (by omega) yT ((E r hr i hi).1.trans hk) yP (yz_46 P E hr hi hk (by omega) (by omega) (fun z => by omega) (yz_fin P E hr hi hk (by omega) (by omega) hf (by omega) (by omega) yT ?_))
    have e5 : upd (upd (upd PH (st_y st) (nI (1 + tk_cn (V (40 * r + i)) + 1))) (st_y st + 1) 0) (st_y st) 4 = upd (upd PH (st_y st) 4) (st_y st + 1) 0 := by
      funext z
      unfold upd
      by_cases z1 : z = st_y st
      · rw [if_pos z1, if_neg (by omega), if_pos z1]
      · rw [if_neg z1]
        by_cases z2 : z = st_y st + 1
        · rw [if_pos z2, if_pos z2]
        · rw [if_neg z2, if_neg z2, if_neg z1, if_neg z1]
    rw [e5]
    have g := yk_push (tg := tg) (kd := kd) (wo := wo) (st := (r, i, 3, 4, 0, v, e, n, t) :: st) (TK := TK) (HT := HT) (PH := upd PH (st_y st) 4) (TG := upd TG (st_y st) (vp_nar .short tg.toInt16.toInt32)) (HW := upd HW (st_y st) (vp_nar .byte e.toInt8.toInt32)) (KS := upd KS (st_y st) (vp_nar .byte kd.toInt8.toInt32)) (WR := upd WR (st_y st) wo) (VL := VL) (BG := BG) ⟨sy_keep st (fun _ _ => rfl) (fun _ _ => rfl) (fun q hq => pk_un (by omega)) (fun q hq => pk_un (by omega)) (fun q hq => pk_un (by omega)) (fun q hq => pk_un (by omega)) (fun q hq => pk_un (by omega)) (fun _ _ => rfl) (fun _ _ => rfl) y0, yT, yH, pk_us, fun z => (z rfl).elim, fun z => by rw [fr_b_k fk] at z; omega, fun _ => ⟨pk_us.trans q1, fun z => pk_us.trans (q2 z), fun z => pk_us.trans (hT34 z), fun z => pk_us.trans (q3 z)⟩, fun z => absurd (hk.symm.trans z) (by decide)⟩ h
    rw [eN, hN] at g
    exact g
end
end
section
section
variable {f_expectedCount f_draftLength f_latestPlace f_place f_result f_thrown : Int32} {K V Z HB EX KY U LY VY B OP va ou : Nat → Int32} {LN : Nat → Nat} {r i p y c : Nat} {a e0 n0 e n v : Int32} {t0 t s q : Nat} {st : List Fr}
/-- an expression gives an exception on -/
theorem g_x4 (P : pg_T K V Z U B LN) (E : pg_E K V KY VY LN) (W : st_wf K V U LN ((r, i, p, y, c, a, e0, n0, t0) :: st)) (h12 : st_w K ((r, i, p, y, c, a, e0, n0, t0) :: st) ≤ 12) (hq : q ≤ 300) (hs : tk_so (K (40 * r + i)) = 0) (hp : 1 ≤ p) (h8 : ¬ (K (40 * r + i) = 8 ∧ p = 2)) (hn : ∃ m : Nat, m < 4 ∧ n = nI m) : GD f_expectedCount f_draftLength f_latestPlace f_place f_result f_thrown K V Z HB EX KY U LY VY B OP LN ((r, i, p, y, c, a, e0, n0, t0) :: st) 4 n v t s q va ou := by
  obtain ⟨b1, b2, b3, b4, b5, b6, b7, hr, hi⟩ := wf_bd P W h12
  obtain ⟨hok, _, _⟩ := pg_tok P hr hi
  have n17 : ¬ K (40 * r + i) = 17 := fun z => by rw [z] at hs; exact absurd hs (by decide)
  have n12 : ¬ K (40 * r + i) = 12 := fun z => by rw [z] at hs; exact absurd hs (by decide)
  have n13 : ¬ K (40 * r + i) = 13 := fun z => by rw [z] at hs; exact absurd hs (by decide)
  have h9 : ¬ 9 ≤ K (40 * r + i) := fun z => by
    unfold tk_so at hs
    rw [if_neg (Int32.not_lt.mpr z)] at hs
    split at hs <;> omega
  have hc : c = 0 ∧ y = p ∧ p ≤ 2 := by
    rcases W.2.2.2.2.1 with ⟨h, _⟩ | ⟨h, _⟩ | ⟨_, h, h', h''⟩ | ⟨_, _, _, _, h, h', _, h''⟩
    · exact (n17 h).elim
    · exact (n12 h).elim
    · exact ⟨h, h'', h'⟩
    · exact ⟨h, h', h''⟩
  obtain ⟨rfl, rfl, hp2⟩ := hc
  have eR : st_w K ((r, i, y, y, 0, a, e0, n0, t0) :: st) = st_w K st := st_w_n h8
  refine g_popped P (e' := 4) (n' := n) (v' := v) (t' := t) (s' := s) (q' := q) (va' := va) (ou' := ou) W ⟨by decide, fun _ => Or.inr rfl, fun z => absurd z (by decide), fun _ => hn⟩ b6 hq (Nat.le_refl _) (by omega) b2 ?_ (g_y0 b1 ?_)
  · intro ET EP KE KN KV post hS h; obtain ⟨s0, sT, sP, s3, sb⟩ := hS
    rw [eR]
    by_cases k8 : K (40 * r + i) = 8
    · have : y = 1 := by
        have : ¬ y = 2 := fun z => h8 ⟨k8, z⟩
        omega
      subst this
      exact xn_call b2 (by omega) sT sP k8 (xc_1stop b2 (by decide) (h (upd EP st.length _) (fun q hq => pk_un (by omega))))
    · exact xn_plain b2 (by omega) sT sP hok ⟨k8, n12, n13, n17⟩ (xp_stop b2 (by decide) (h (upd EP st.length _) (fun q hq => pk_un (by omega))))
  · intro hd tg kd wo TK HT PH TG HW KS WR VL BG post hS hT h; obtain ⟨y0, yT, yH, yP, yC, yV, y3, yB⟩ := hS
    rw [eR]
    refine yw_x (by omega) (by omega) yT (E r hr i hi).1 yP h9 (ye_in hok hs (fun z => ?_) (by omega) (ye_thrown (by omega) yH (h _ _ _ _ VL (fun _ _ => rfl) ?_)))
    · have : ¬ y = 2 := fun z2 => h8 ⟨z, z2⟩
      omega
    · exact sy_pop_4 (r := r) (i := i) (p := y) (y := y) (c := 0) (a := a) (e0 := e0) (n0 := n0) (t0 := t0) (hT.2.2.2.1 (Or.inr rfl)) (hT.2.2.2.2 rfl)
theorem en_0 : en_pop K V U r i 0 n t := ⟨Or.inl rfl, fun _ => Or.inl rfl, fun z => absurd z (by decide), fun z => absurd z (by decide)⟩
/-- NUM -/
theorem g_num (P : pg_T K V Z U B LN) (E : pg_E K V KY VY LN) (W : st_wf K V U LN ((r, i, 0, 0, 0, a, e0, n0, t0) :: st)) (h12 : st_w K ((r, i, 0, 0, 0, a, e0, n0, t0) :: st) ≤ 12) (hq : q ≤ 300) (hk : K (40 * r + i) = 0) : GD f_expectedCount f_draftLength f_latestPlace f_place f_result f_thrown K V Z HB EX KY U LY VY B OP LN ((r, i, 0, 0, 0, a, e0, n0, t0) :: st) 0 n v t s q va ou := by
  obtain ⟨b1, b2, b3, b4, b5, b6, b7, hr, hi⟩ := wf_bd P W h12
  obtain ⟨hok, _, _⟩ := pg_tok P hr hi
  have hs : tk_so (K (40 * r + i)) = 0 := by rw [hk]; decide
  have eR : st_w K ((r, i, 0, 0, 0, a, e0, n0, t0) :: st) = st_w K st := st_w_n (fun z => by omega)
  have hn : tk_np (K (40 * r + i)) (V (40 * r + i)) = 0 := by rw [hk]; rfl
  refine g_popped P (e' := 0) (n' := n) (v' := V (40 * r + i)) (t' := t) (s' := s) (q' := q) (va' := va) (ou' := ou) W en_0 b6 hq (Nat.le_refl _) (by omega) b2 ?_ (g_y0 b1 ?_)
  · intro ET EP KE KN KV post hS h; obtain ⟨s0, sT, sP, s3, sb⟩ := hS
    rw [eR]
    exact xn_plain b2 (by omega) sT sP hok (by rw [hk]; exact ⟨by decide, by decide, by decide, by decide⟩) (xp_finx P hr hi b2 sT (by omega) (by omega) hs (xf_num (by omega) hk _ (h (upd EP st.length _) (fun q hq => pk_un (by omega)))))
  · intro hd tg kd wo TK HT PH TG HW KS WR VL BG post hS hT h; obtain ⟨y0, yT, yH, yP, yC, yV, y3, yB⟩ := hS
    rw [eR]
    refine yw_x (by omega) (by omega) yT ((E r hr i hi).1.trans hk) yP (by decide) (ye_in (hk ▸ hok) (by decide) (fun z => by omega) (by omega) ?_)
    rw [hk] at hn
    rw [hn]
    refine ye_num (by omega) (by omega) (by omega) yH ?_
    rw [(E r hr i hi).2]
    exact h _ _ _ _ _ (fun q hq => pk_un (by omega)) (sy_pop_x (hd := 0) W hs pk_us)
/-- VAR -/
theorem g_var (P : pg_T K V Z U B LN) (E : pg_E K V KY VY LN) (W : st_wf K V U LN ((r, i, 0, 0, 0, a, e0, n0, t0) :: st)) (h12 : st_w K ((r, i, 0, 0, 0, a, e0, n0, t0) :: st) ≤ 12) (hq : q ≤ 300) (hk : K (40 * r + i) = 1) : GD f_expectedCount f_draftLength f_latestPlace f_place f_result f_thrown K V Z HB EX KY U LY VY B OP LN ((r, i, 0, 0, 0, a, e0, n0, t0) :: st) 0 n v t s q va ou := by
  obtain ⟨b1, b2, b3, b4, b5, b6, b7, hr, hi⟩ := wf_bd P W h12
  obtain ⟨hok, _, _⟩ := pg_tok P hr hi
  have hs : tk_so (K (40 * r + i)) = 0 := by rw [hk]; decide
  have eR : st_w K ((r, i, 0, 0, 0, a, e0, n0, t0) :: st) = st_w K st := st_w_n (fun z => by omega)
  have hn : tk_np (K (40 * r + i)) (V (40 * r + i)) = 0 := by rw [hk]; rfl
  obtain ⟨m, hm, em⟩ := tk_var hok (Or.inl hk)
  refine g_popped P (e' := 0) (n' := n) (v' := va (6 * (st_w K st - 1) + m)) (t' := t) (s' := s) (q' := q) (va' := va) (ou' := ou) W en_0 b6 hq (Nat.le_refl _) (by omega) b2 ?_ (g_y0 b1 ?_)
  · intro ET EP KE KN KV post hS h; obtain ⟨s0, sT, sP, s3, sb⟩ := hS
    rw [eR]
    exact xn_plain b2 (by omega) sT sP hok (by rw [hk]; exact ⟨by decide, by decide, by decide, by decide⟩) (xp_finx P hr hi b2 sT (by omega) (by omega) hs (xf_var (by omega) hk em hm b7 b6 _ (h (upd EP st.length _) (fun q hq => pk_un (by omega)))))
  · intro hd tg kd wo TK HT PH TG HW KS WR VL BG post hS hT h; obtain ⟨y0, yT, yH, yP, yC, yV, y3, yB⟩ := hS
    rw [eR]
    refine yw_x (by omega) (by omega) yT ((E r hr i hi).1.trans hk) yP (by decide) (ye_in (hk ▸ hok) (by decide) (fun z => by omega) (by omega) ?_)
    rw [hk] at hn
    rw [hn]
    exact ye_var (by omega) (by omega) (by omega) yH ((E r hr i hi).2.trans em) hm b7 b6 (h _ _ _ _ _ (fun q hq => pk_un (by omega)) (sy_pop_x (hd := 0) W hs pk_us))
/-- NOT -/
theorem g_not (P : pg_T K V Z U B LN) (E : pg_E K V KY VY LN) (W : st_wf K V U LN ((r, i, 1, 1, 0, a, e0, n0, t0) :: st)) (h12 : st_w K ((r, i, 1, 1, 0, a, e0, n0, t0) :: st) ≤ 12) (hq : q ≤ 300) (hk : K (40 * r + i) = 7) : GD f_expectedCount f_draftLength f_latestPlace f_place f_result f_thrown K V Z HB EX KY U LY VY B OP LN ((r, i, 1, 1, 0, a, e0, n0, t0) :: st) 0 n v t s q va ou := by
  obtain ⟨b1, b2, b3, b4, b5, b6, b7, hr, hi⟩ := wf_bd P W h12
  obtain ⟨hok, _, _⟩ := pg_tok P hr hi
  have hs : tk_so (K (40 * r + i)) = 0 := by rw [hk]; decide
  have eR : st_w K ((r, i, 1, 1, 0, a, e0, n0, t0) :: st) = st_w K st := st_w_n (fun z => by omega)
  have hR : st_h K ((r, i, 1, 1, 0, a, e0, n0, t0) :: st) = st_h K st := st_h_n (fr_b_n (by omega))
  have hn : tk_np (K (40 * r + i)) (V (40 * r + i)) = 1 := by rw [hk]; rfl
  have hcs : fr_cs (K (40 * r + i)) 1 = 0 := by rw [hk]; rfl
  refine g_popped P (e' := 0) (n' := n) (v' := if v = 0 then 1 else 0) (t' := t) (s' := s) (q' := q) (va' := va) (ou' := ou) W en_0 b6 hq (Nat.le_refl _) (by omega) b2 ?_ (g_y0 b1 ?_)
  · intro ET EP KE KN KV post hS h; obtain ⟨s0, sT, sP, s3, sb⟩ := hS
    rw [eR]
    exact xn_plain b2 (by omega) sT sP hok (by rw [hk]; exact ⟨by decide, by decide, by decide, by decide⟩) (xp_finx P hr hi b2 sT (by omega) (by omega) hs (xf_not (by omega) hk _ (h (upd EP st.length _) (fun q hq => pk_un (by omega)))))
  · intro hd tg kd wo TK HT PH TG HW KS WR VL BG post hS hT h; obtain ⟨y0, yT, yH, yP, yC, yV, y3, yB⟩ := hS
    rw [eR]
    have hT1 := hT.1
    have hT2 := hT.2.1 rfl (by omega) hcs
    rw [hR, if_pos ⟨rfl, by omega, hcs⟩] at hT1
    rw [hR] at hT2
    subst hT1
    refine yw_x (by omega) (by omega) yT ((E r hr i hi).1.trans hk) yP (by decide) (ye_in (hk ▸ hok) (by decide) (fun z => by omega) (by omega) ?_)
    rw [hk] at hn
    rw [hn]
    refine ye_not (by omega) (by omega) yH ?_
    rw [hT2]
    exact h _ _ _ _ _ (fun q hq => pk_un (by omega)) (sy_pop_x (hd := 0) W hs pk_us)
/-- ADD to LESS -/
theorem g_two (P : pg_T K V Z U B LN) (E : pg_E K V KY VY LN) (W : st_wf K V U LN ((r, i, 2, 2, 0, a, e0, n0, t0) :: st)) (h12 : st_w K ((r, i, 2, 2, 0, a, e0, n0, t0) :: st) ≤ 12) (hq : q ≤ 300) (hk : K (40 * r + i) = 2 ∨ K (40 * r + i) = 3 ∨ K (40 * r + i) = 4 ∨ K (40 * r + i) = 5 ∨ K (40 * r + i) = 6) (hd0 : K (40 * r + i) = 5 → ¬ v = 0) : GD f_expectedCount f_draftLength f_latestPlace f_place f_result f_thrown K V Z HB EX KY U LY VY B OP LN ((r, i, 2, 2, 0, a, e0, n0, t0) :: st) 0 n v t s q va ou := by
  obtain ⟨b1, b2, b3, b4, b5, b6, b7, hr, hi⟩ := wf_bd P W h12
  obtain ⟨hok, _, _⟩ := pg_tok P hr hi
  have hs : tk_so (K (40 * r + i)) = 0 := by rcases hk with h | h | h | h | h <;> rw [h] <;> decide
  have h8 : ¬ K (40 * r + i) = 8 := by rcases hk with h | h | h | h | h <;> rw [h] <;> decide
  have eR : st_w K ((r, i, 2, 2, 0, a, e0, n0, t0) :: st) = st_w K st := st_w_n (fun z => h8 z.1)
  have hR : st_h K ((r, i, 2, 2, 0, a, e0, n0, t0) :: st) = st_h K st + 1 := by show st_h K st + _ = _; rw [fr_b_2 hk]
  have hn : tk_np (K (40 * r + i)) (V (40 * r + i)) = 2 := by rcases hk with h | h | h | h | h <;> rw [h] <;> rfl
  have hcs : fr_cs (K (40 * r + i)) 2 = 0 := by rcases hk with h | h | h | h | h <;> rw [h] <;> rfl
  refine g_popped P (e' := 0) (n' := n) (v' := ev_2 (K (40 * r + i)) a v) (t' := t) (s' := s) (q' := q) (va' := va) (ou' := ou) W en_0 b6 hq (Nat.le_refl _) (by omega) b2 ?_ (g_y0 b1 ?_)
  · intro ET EP KE KN KV post hS h; obtain ⟨s0, sT, sP, s3, sb⟩ := hS
    rw [eR]
    refine xn_plain b2 (by omega) sT sP hok (by rcases hk with h | h | h | h | h <;> rw [h] <;> exact ⟨by decide, by decide, by decide, by decide⟩) (xp_finx P hr hi b2 sT (by omega) (by omega) hs ?_)
    have h' := h (upd EP st.length (nI (2 + 1))) (fun q hq => pk_un (by omega))
    rw [sb (fr_b_2 hk)]
    rcases hk with hk | hk | hk | hk | hk <;> rw [hk] at h'
    · exact xf_add (by omega) hk _ h'
    · exact xf_sub (by omega) hk _ h'
    · exact xf_mul (by omega) hk _ h'
    · exact xf_div (by omega) hk _ (hd0 hk) h'
    · exact xf_less (by omega) hk _ h'
  · intro hd tg kd wo TK HT PH TG HW KS WR VL BG post hS hT h; obtain ⟨y0, yT, yH, yP, yC, yV, y3, yB⟩ := hS
    rw [eR]
    have hT1 := hT.1
    have hT2 := hT.2.1 rfl (by omega) hcs
    rw [hR, if_pos ⟨rfl, by omega, hcs⟩] at hT1
    rw [hR] at hT2
    subst hT1
    have y5 := yV (fr_b_2 hk)
    refine yw_x (by omega) (by omega) yT (E r hr i hi).1 yP (by rcases hk with h | h | h | h | h <;> rw [h] <;> decide) (ye_in hok hs (fun z => (h8 z).elim) (by omega) ?_)
    rw [hn]
    refine ye_two hk (fun z => by rw [hT2]; exact hd0 z) (by omega) (by omega) yH ?_
    rw [hT2, y5]
    exact h _ _ _ _ _ (fun q hq => pk_un (by omega)) (sy_pop_x (hd := 0) W hs pk_us)
/-- DIV by 0 -/
theorem g_div0 (P : pg_T K V Z U B LN) (E : pg_E K V KY VY LN) (W : st_wf K V U LN ((r, i, 2, 2, 0, a, e0, n0, t0) :: st)) (h12 : st_w K ((r, i, 2, 2, 0, a, e0, n0, t0) :: st) ≤ 12) (hq : q ≤ 300) (hk : K (40 * r + i) = 5) : GD f_expectedCount f_draftLength f_latestPlace f_place f_result f_thrown K V Z HB EX KY U LY VY B OP LN ((r, i, 2, 2, 0, a, e0, n0, t0) :: st) 0 n 0 t s q va ou := by
  obtain ⟨b1, b2, b3, b4, b5, b6, b7, hr, hi⟩ := wf_bd P W h12
  obtain ⟨hok, _, _⟩ := pg_tok P hr hi
  have hk' : K (40 * r + i) = 2 ∨ K (40 * r + i) = 3 ∨ K (40 * r + i) = 4 ∨ K (40 * r + i) = 5 ∨ K (40 * r + i) = 6 := Or.inr (Or.inr (Or.inr (Or.inl hk)))
  have hs : tk_so (K (40 * r + i)) = 0 := by rw [hk]; decide
  have eR : st_w K ((r, i, 2, 2, 0, a, e0, n0, t0) :: st) = st_w K st := st_w_n (fun z => absurd (hk.symm.trans z.1) (by decide))
  have hR : st_h K ((r, i, 2, 2, 0, a, e0, n0, t0) :: st) = st_h K st + 1 := by show st_h K st + _ = _; rw [fr_b_2 hk']
  have hn : tk_np (K (40 * r + i)) (V (40 * r + i)) = 2 := by rw [hk]; rfl
  have hcs : fr_cs (K (40 * r + i)) 2 = 0 := by rw [hk]; rfl
  refine g_popped P (e' := 4) (n' := 0) (v' := a) (t' := t) (s' := s) (q' := q) (va' := va) (ou' := ou) W ⟨by decide, fun _ => Or.inr rfl, fun z => absurd z (by decide), fun _ => ⟨0, by decide, rfl⟩⟩ b6 hq (Nat.le_refl _) (by omega) b2 ?_ (g_y0 b1 ?_)
  · intro ET EP KE KN KV post hS h; obtain ⟨s0, sT, sP, s3, sb⟩ := hS
    rw [eR]
    refine xn_plain b2 (by omega) sT sP hok (by rw [hk]; exact ⟨by decide, by decide, by decide, by decide⟩) (xp_finx P hr hi b2 sT (by omega) (by omega) hs ?_)
    rw [sb (fr_b_2 hk')]
    exact xf_div0 (by omega) hk _ (h (upd EP st.length _) (fun q hq => pk_un (by omega)))
  · intro hd tg kd wo TK HT PH TG HW KS WR VL BG post hS hT h; obtain ⟨y0, yT, yH, yP, yC, yV, y3, yB⟩ := hS
    rw [eR]
    have hT1 := hT.1
    have hT2 := hT.2.1 rfl (by omega) hcs
    rw [hR, if_pos ⟨rfl, by omega, hcs⟩] at hT1
    rw [hR] at hT2
    subst hT1
    have y5 := yV (fr_b_2 hk')
    refine yw_x (by omega) (by omega) yT ((E r hr i hi).1.trans hk) yP (by decide) (ye_in (hk ▸ hok) (by decide) (fun z => absurd z (by decide)) (by omega) ?_)
    rw [hk] at hn
    rw [hn]
    refine ye_div0 hT2 (by omega) (by omega) yH (h _ _ _ _ VL (fun _ _ => rfl) ?_)
    exact sy_pop_4 (r := r) (i := i) (p := 2) (y := 2) (c := 0) (a := a) (e0 := e0) (n0 := n0) (t0 := t0) y5 rfl
/-- CALL: the function has ended -/
theorem g_ret (P : pg_T K V Z U B LN) (E : pg_E K V KY VY LN) (W : st_wf K V U LN ((r, i, 2, 2, 0, a, e0, n0, t0) :: st)) (h12 : st_w K ((r, i, 2, 2, 0, a, e0, n0, t0) :: st) ≤ 12) (hq : q ≤ 300) (hk : K (40 * r + i) = 8) (he : e = 0 ∨ e = 3 ∨ e = 4) (hn4 : e = 4 → ∃ m : Nat, m < 4 ∧ n = nI m) : GD f_expectedCount f_draftLength f_latestPlace f_place f_result f_thrown K V Z HB EX KY U LY VY B OP LN ((r, i, 2, 2, 0, a, e0, n0, t0) :: st) e n v t s q va ou := by
  obtain ⟨b1, b2, b3, b4, b5, b6, b7, hr, hi⟩ := wf_bd P W h12
  obtain ⟨hok, _, _⟩ := pg_tok P hr hi
  have hs : tk_so (K (40 * r + i)) = 0 := by rw [hk]; decide
  have eR : st_w K ((r, i, 2, 2, 0, a, e0, n0, t0) :: st) = st_w K st + 1 := by show _ + _ = _; rw [if_pos ⟨hk, rfl⟩]
  have fk : ¬ (K (40 * r + i) = 2 ∨ K (40 * r + i) = 3 ∨ K (40 * r + i) = 4 ∨ K (40 * r + i) = 5 ∨ K (40 * r + i) = 6) := by rw [hk]; decide
  rcases he with rfl | rfl | rfl
  · refine g_popped P (e' := 0) (n' := n) (v' := 0) (t' := t) (s' := s) (q' := q) (va' := va) (ou' := ou) W en_0 b6 hq (Nat.le_refl _) (by omega) b2 ?_ (g_y0 b1 ?_)
    · intro ET EP KE KN KV post hS h; obtain ⟨s0, sT, sP, s3, sb⟩ := hS
      rw [eR]
      exact xn_call b2 (by omega) sT sP hk (xc_2 b2 (fun _ => (h (upd EP st.length _) (fun q hq => pk_un (by omega)))) (fun z => absurd z (by decide)) (fun z => absurd rfl z))
    · intro hd tg kd wo TK HT PH TG HW KS WR VL BG post hS hT h; obtain ⟨y0, yT, yH, yP, yC, yV, y3, yB⟩ := hS
      rw [eR]
      exact yw_x (by omega) (by omega) yT ((E r hr i hi).1.trans hk) yP (by decide) (yr_in (yr_0 (by omega) (by omega) yH (yB hk rfl) (h _ _ _ _ _ (fun q hq => pk_un (by omega)) (sy_pop_x (hd := 0) W hs pk_us))))
  · refine g_popped P (e' := 0) (n' := n) (v' := v) (t' := t) (s' := s) (q' := q) (va' := va) (ou' := ou) W en_0 b6 hq (Nat.le_refl _) (by omega) b2 ?_ (g_y0 b1 ?_)
    · intro ET EP KE KN KV post hS h; obtain ⟨s0, sT, sP, s3, sb⟩ := hS
      rw [eR]
      exact xn_call b2 (by omega) sT sP hk (xc_2 b2 (fun z => absurd z (by decide)) (fun _ => (h (upd EP st.length _) (fun q hq => pk_un (by omega)))) (fun _ z => absurd rfl z))
    · intro hd tg kd wo TK HT PH TG HW KS WR VL BG post hS hT h; obtain ⟨y0, yT, yH, yP, yC, yV, y3, yB⟩ := hS
      rw [eR]
      have e5 := hT.2.2.2.1 (Or.inl rfl)
      subst e5
      exact yw_x (by omega) (by omega) yT ((E r hr i hi).1.trans hk) yP (by decide) (yr_in (yr_3 (by omega) (by omega) yH (yB hk rfl) (h _ _ _ _ _ (fun q hq => pk_un (by omega)) (sy_pop_x (hd := 0) W hs pk_us))))
  · refine g_popped P (e' := 4) (n' := n) (v' := v) (t' := t) (s' := s) (q' := q) (va' := va) (ou' := ou) W ⟨by decide, fun _ => Or.inr rfl, fun z => absurd z (by decide), hn4⟩ b6 hq (Nat.le_refl _) (by omega) b2 ?_ (g_y0 b1 ?_)
    · intro ET EP KE KN KV post hS h; obtain ⟨s0, sT, sP, s3, sb⟩ := hS
      rw [eR]
      exact xn_call b2 (by omega) sT sP hk (xc_2 b2 (fun z => absurd z (by decide)) (fun z => absurd z (by decide)) (fun _ _ => (h (upd EP st.length _) (fun q hq => pk_un (by omega)))))
    · intro hd tg kd wo TK HT PH TG HW KS WR VL BG post hS hT h; obtain ⟨y0, yT, yH, yP, yC, yV, y3, yB⟩ := hS
      rw [eR]
      refine yw_x (by omega) (by omega) yT ((E r hr i hi).1.trans hk) yP (by decide) (yr_in (yr_4 (by omega) yH (yB hk rfl) (h _ _ _ _ VL (fun _ _ => rfl) ?_)))
      exact sy_pop_4 (r := r) (i := i) (p := 2) (y := 2) (c := 0) (a := a) (e0 := e0) (n0 := n0) (t0 := t0) (hT.2.2.2.1 (Or.inr rfl)) (hT.2.2.2.2 rfl)
end
end
section
section
variable {f_expectedCount f_draftLength f_latestPlace f_place f_result f_thrown : Int32} {K V Z HB EX KY U LY VY B OP va ou : Nat → Int32} {LN : Nat → Nat} {r i p y c : Nat} {a e0 n0 e n v : Int32} {t0 t s q : Nat} {st : List Fr}
/-- CALL: there is no body -/
theorem g_cnone (P : pg_T K V Z U B LN) (E : pg_E K V KY VY LN) (W : st_wf K V U LN ((r, i, 1, 1, 0, a, e0, n0, t0) :: st)) (h12 : st_w K ((r, i, 1, 1, 0, a, e0, n0, t0) :: st) ≤ 12) (hq : q ≤ 300) (hk : K (40 * r + i) = 8) {f : Nat} (hf : f < 4) (hv : V (40 * r + i) = nI f) (hb : HB f = 0) (hl : LY f = 0) : GD f_expectedCount f_draftLength f_latestPlace f_place f_result f_thrown K V Z HB EX KY U LY VY B OP LN ((r, i, 1, 1, 0, a, e0, n0, t0) :: st) 0 n v t s q va ou := by
  obtain ⟨b1, b2, b3, b4, b5, b6, b7, hr, hi⟩ := wf_bd P W h12
  obtain ⟨hok, _, _⟩ := pg_tok P hr hi
  have hn : tk_np (K (40 * r + i)) (V (40 * r + i)) = 1 := by rw [hk]; rfl
  have eR : st_w K ((r, i, 1, 1, 0, a, e0, n0, t0) :: st) = st_w K st := st_w_n (fun z => by omega)
  have hR : st_h K ((r, i, 1, 1, 0, a, e0, n0, t0) :: st) = st_h K st := st_h_n (fr_b_n (by omega))
  have hcs : fr_cs (K (40 * r + i)) 1 = 0 := by rw [hk]; rfl
  refine g_popped P (e' := 4) (n' := 1) (v' := nI f) (t' := t) (s' := s) (q' := q) (va' := va) (ou' := ou) W ⟨by decide, fun _ => Or.inr rfl, fun z => absurd z (by decide), fun _ => ⟨1, by decide, rfl⟩⟩ b6 hq (Nat.le_refl _) (by omega) b2 ?_ ⟨2, ?_⟩
  · intro ET EP KE KN KV post hS h; obtain ⟨s0, sT, sP, s3, sb⟩ := hS
    rw [eR]
    exact xn_call b2 (by omega) sT sP hk (xc_1go b2 (by omega) sT hv (xb_none hf hb (h (upd EP st.length _) (fun q hq => pk_un (by omega)))))
  · intro post m h hd tg kd wo TK HT PH TG HW KS WR VL BG hS hT
    obtain ⟨y0, yT, yH, yP, yC, yV, y3, yB⟩ := hS
    rw [eR]
    have hT1 := hT.1
    rw [hR, if_pos ⟨rfl, by omega, hcs⟩] at hT1
    subst hT1
    refine ys_enter (m := m + 1) (T := st_y st) (by omega) (yw_x (by omega) (by omega) yT ((E r hr i hi).1.trans hk) yP (by decide) (ye_in (hk ▸ hok) (by decide) (fun _ => by omega) (by omega) ?_))
    rw [hk] at hn
    rw [hn]
    refine yc_none (by omega) (by omega) (by omega) hf ((E r hr i hi).2.trans hv) hl ?_
    refine ys_enter (m := m) (T := st_y st) (by omega) (yw_x (y := 2) (j := 40 * r + i) (by omega) (by omega) yT ((E r hr i hi).1.trans hk) pk_us (by decide) (yr_in (yr_4n (by omega) yH pk_us ?_)))
    exact yk_pop (sy_keep st (fun _ _ => rfl) (fun _ _ => rfl) (fun q hq => pk_un (by omega)) (fun _ _ => rfl) (fun _ _ => rfl) (fun _ _ => rfl) (fun _ _ => rfl) (fun _ _ => rfl) (fun q hq => pk_un (by omega)) y0) (sy_pop_4 (r := r) (i := i) (p := 1) (y := 1) (c := 0) (a := a) (e0 := e0) (n0 := n0) (t0 := t0) rfl rfl) h
/-- CALL: 12 are at work -/
theorem g_cdeep (P : pg_T K V Z U B LN) (E : pg_E K V KY VY LN) (W : st_wf K V U LN ((r, i, 1, 1, 0, a, e0, n0, t0) :: st)) (h12 : st_w K ((r, i, 1, 1, 0, a, e0, n0, t0) :: st) ≤ 12) (hq : q ≤ 300) (hk : K (40 * r + i) = 8) {f : Nat} (hf : f < 4) (hv : V (40 * r + i) = nI f) (hb : HB f = 1) (hl : ¬ LY f = 0) (hq3 : q < 300) (hw : st_w K st = 12) : GD f_expectedCount f_draftLength f_latestPlace f_place f_result f_thrown K V Z HB EX KY U LY VY B OP LN ((r, i, 1, 1, 0, a, e0, n0, t0) :: st) 0 n v t s q va ou := by
  obtain ⟨b1, b2, b3, b4, b5, b6, b7, hr, hi⟩ := wf_bd P W h12
  obtain ⟨hok, _, _⟩ := pg_tok P hr hi
  have hn : tk_np (K (40 * r + i)) (V (40 * r + i)) = 1 := by rw [hk]; rfl
  have eR : st_w K ((r, i, 1, 1, 0, a, e0, n0, t0) :: st) = 12 := (st_w_n (fun z => by omega)).trans hw
  have hR : st_h K ((r, i, 1, 1, 0, a, e0, n0, t0) :: st) = st_h K st := st_h_n (fr_b_n (by omega))
  have hcs : fr_cs (K (40 * r + i)) 1 = 0 := by rw [hk]; rfl
  refine g_popped P (e' := 4) (n' := 2) (v' := nI f) (t' := t) (s' := s) (q' := q + 1) (va' := va) (ou' := ou) W ⟨by decide, fun _ => Or.inr rfl, fun z => absurd z (by decide), fun _ => ⟨2, by decide, rfl⟩⟩ b6 (by omega) (by omega) (by omega) b2 ?_ ⟨2, ?_⟩
  · intro ET EP KE KN KV post hS h; obtain ⟨s0, sT, sP, s3, sb⟩ := hS
    rw [eR]
    rw [hw] at h
    exact xn_call b2 (by omega) sT sP hk (xc_1go b2 (by omega) sT hv (xb_deep hf hb hq3 (h (upd EP st.length _) (fun q hq => pk_un (by omega)))))
  · intro post m h hd tg kd wo TK HT PH TG HW KS WR VL BG hS hT
    obtain ⟨y0, yT, yH, yP, yC, yV, y3, yB⟩ := hS
    rw [eR]
    have hT1 := hT.1
    rw [hR, if_pos ⟨rfl, by omega, hcs⟩] at hT1
    subst hT1
    refine ys_enter (m := m + 1) (T := st_y st) (by omega) (yw_x (by omega) (by omega) yT ((E r hr i hi).1.trans hk) yP (by decide) (ye_in (hk ▸ hok) (by decide) (fun _ => by omega) (by omega) ?_))
    rw [hk] at hn
    rw [hn]
    refine yc_deep (by omega) (by omega) (by omega) hf hq3 ((E r hr i hi).2.trans hv) hl ?_
    refine ys_enter (m := m) (T := st_y st) (by omega) (yw_x (y := 2) (j := 40 * r + i) (by omega) (by omega) yT ((E r hr i hi).1.trans hk) pk_us (by decide) (yr_in (yr_4n (by omega) yH pk_us ?_)))
    have g := yk_pop (tg := tg) (kd := 2) (wo := nI f) (hd := nI (st_h K st)) (sy_keep (TK' := TK) (HT' := HT) (PH' := upd PH (st_y st) 2) (TG' := TG) (HW' := HW) (KS' := KS) (WR' := WR) (VL' := VL) (BG' := upd BG (st_y st) 0) st (fun _ _ => rfl) (fun _ _ => rfl) (fun q hq => pk_un (by omega)) (fun _ _ => rfl) (fun _ _ => rfl) (fun _ _ => rfl) (fun _ _ => rfl) (fun _ _ => rfl) (fun q hq => pk_un (by omega)) y0) (sy_pop_4 (r := r) (i := i) (p := 1) (y := 1) (c := 0) (a := a) (e0 := e0) (n0 := n0) (t0 := t0) rfl rfl) h
    rw [hw] at g
    exact g
/-- SET -/
theorem g_set (P : pg_T K V Z U B LN) (E : pg_E K V KY VY LN) (W : st_wf K V U LN ((r, i, 1, 1, 0, a, e0, n0, t0) :: st)) (h12 : st_w K ((r, i, 1, 1, 0, a, e0, n0, t0) :: st) ≤ 12) (hq : q ≤ 300) (hk : K (40 * r + i) = 10) : GD f_expectedCount f_draftLength f_latestPlace f_place f_result f_thrown K V Z HB EX KY U LY VY B OP LN ((r, i, 1, 1, 0, a, e0, n0, t0) :: st) 0 n v t s q va ou := by
  obtain ⟨b1, b2, b3, b4, b5, b6, b7, hr, hi⟩ := wf_bd P W h12
  obtain ⟨hok, _, _⟩ := pg_tok P hr hi
  obtain ⟨m, hm, em⟩ := tk_var hok (Or.inr hk)
  have hs : tk_so (K (40 * r + i)) = 1 := by rw [hk]; decide
  have hn : tk_np (K (40 * r + i)) (V (40 * r + i)) = 1 := by rw [hk]; rfl
  have eR : st_w K ((r, i, 1, 1, 0, a, e0, n0, t0) :: st) = st_w K st := st_w_n (fun z => by omega)
  have hR : st_h K ((r, i, 1, 1, 0, a, e0, n0, t0) :: st) = st_h K st := st_h_n (fr_b_n (by omega))
  have hcs : fr_cs (K (40 * r + i)) 1 = 0 := by rw [hk]; rfl
  refine g_popped P (e' := 0) (n' := n) (v' := v) (t' := t) (s' := s) (q' := q) (va' := upd va (6 * (st_w K st - 1) + m) v) (ou' := ou) W en_0 b6 hq (Nat.le_refl _) (by omega) b2 ?_ (g_y0 b1 ?_)
  · intro ET EP KE KN KV post hS h; obtain ⟨s0, sT, sP, s3, sb⟩ := hS
    rw [eR]
    exact xn_plain b2 (by omega) sT sP hok (by rw [hk]; exact ⟨by decide, by decide, by decide, by decide⟩) (xp_fins P hr hi b2 sT (by omega) (by omega) hs (xg_set (by omega) hk em hm b7 b6 (h (upd EP st.length _) (fun q hq => pk_un (by omega)))))
  · intro hd tg kd wo TK HT PH TG HW KS WR VL BG post hS hT h; obtain ⟨y0, yT, yH, yP, yC, yV, y3, yB⟩ := hS
    rw [eR]
    have hT1 := hT.1
    have hT2 := hT.2.1 rfl (by omega) hcs
    rw [hR, if_pos ⟨rfl, by omega, hcs⟩] at hT1
    rw [hR] at hT2
    subst hT1 hT2
    exact yw_s (by omega) (by omega) yT ((E r hr i hi).1.trans hk) yP (by decide) (by decide) (by decide) (yt_use (by decide) (by omega) (by omega) (yu_set hm b7 b6 ((E r hr i hi).2.trans em) (yo_thr0 (by omega) yH (h _ _ _ _ VL (fun _ _ => rfl) (sy_pop_s W hs (st_pop W en_0) (fun z => absurd z (by decide)) (fun z => absurd z (by decide)) (fun z => absurd z (by decide)))))))
/-- SAY -/
theorem g_say (P : pg_T K V Z U B LN) (E : pg_E K V KY VY LN) (W : st_wf K V U LN ((r, i, 1, 1, 0, a, e0, n0, t0) :: st)) (h12 : st_w K ((r, i, 1, 1, 0, a, e0, n0, t0) :: st) ≤ 12) (hq : q ≤ 300) (hss : s < 2000000) (hk : K (40 * r + i) = 11) : GD f_expectedCount f_draftLength f_latestPlace f_place f_result f_thrown K V Z HB EX KY U LY VY B OP LN ((r, i, 1, 1, 0, a, e0, n0, t0) :: st) 0 n v t s q va ou := by
  obtain ⟨b1, b2, b3, b4, b5, b6, b7, hr, hi⟩ := wf_bd P W h12
  obtain ⟨hok, _, _⟩ := pg_tok P hr hi
  have hs : tk_so (K (40 * r + i)) = 1 := by rw [hk]; decide
  have hn : tk_np (K (40 * r + i)) (V (40 * r + i)) = 1 := by rw [hk]; rfl
  have eR : st_w K ((r, i, 1, 1, 0, a, e0, n0, t0) :: st) = st_w K st := st_w_n (fun z => by omega)
  have hR : st_h K ((r, i, 1, 1, 0, a, e0, n0, t0) :: st) = st_h K st := st_h_n (fr_b_n (by omega))
  have hcs : fr_cs (K (40 * r + i)) 1 = 0 := by rw [hk]; rfl
  refine g_popped P (e' := 0) (n' := n) (v' := v) (t' := t) (s' := s + 1) (q' := q) (va' := va) (ou' := if s < 40 then upd ou s v else ou) W en_0 b6 hq (Nat.le_refl _) (by omega) b2 ?_ (g_y0 b1 ?_)
  · intro ET EP KE KN KV post hS h; obtain ⟨s0, sT, sP, s3, sb⟩ := hS
    rw [eR]
    exact xn_plain b2 (by omega) sT sP hok (by rw [hk]; exact ⟨by decide, by decide, by decide, by decide⟩) (xp_fins P hr hi b2 sT (by omega) (by omega) hs (xg_say (by omega) hk hss (h (upd EP st.length _) (fun q hq => pk_un (by omega)))))
  · intro hd tg kd wo TK HT PH TG HW KS WR VL BG post hS hT h; obtain ⟨y0, yT, yH, yP, yC, yV, y3, yB⟩ := hS
    rw [eR]
    have hT1 := hT.1
    have hT2 := hT.2.1 rfl (by omega) hcs
    rw [hR, if_pos ⟨rfl, by omega, hcs⟩] at hT1
    rw [hR] at hT2
    subst hT1 hT2
    exact yw_s (by omega) (by omega) yT ((E r hr i hi).1.trans hk) yP (by decide) (by decide) (by decide) (yt_use (by decide) (by omega) (by omega) (yu_say hss (yo_thr0 (by omega) yH (h _ _ _ _ VL (fun _ _ => rfl) (sy_pop_s W hs (st_pop W en_0) (fun z => absurd z (by decide)) (fun z => absurd z (by decide)) (fun z => absurd z (by decide)))))))
/-- THROW -/
theorem g_throw (P : pg_T K V Z U B LN) (E : pg_E K V KY VY LN) (W : st_wf K V U LN ((r, i, 1, 1, 0, a, e0, n0, t0) :: st)) (h12 : st_w K ((r, i, 1, 1, 0, a, e0, n0, t0) :: st) ≤ 12) (hq : q ≤ 300) (hk : K (40 * r + i) = 16) : GD f_expectedCount f_draftLength f_latestPlace f_place f_result f_thrown K V Z HB EX KY U LY VY B OP LN ((r, i, 1, 1, 0, a, e0, n0, t0) :: st) 0 n v t s q va ou := by
  obtain ⟨b1, b2, b3, b4, b5, b6, b7, hr, hi⟩ := wf_bd P W h12
  obtain ⟨hok, _, _⟩ := pg_tok P hr hi
  have hfo := tk_fou hok (Or.inr (Or.inr (Or.inl hk)))
  have hs : tk_so (K (40 * r + i)) = 1 := by rw [hk]; decide
  have hn : tk_np (K (40 * r + i)) (V (40 * r + i)) = 1 := by rw [hk]; rfl
  have eR : st_w K ((r, i, 1, 1, 0, a, e0, n0, t0) :: st) = st_w K st := st_w_n (fun z => by omega)
  have hR : st_h K ((r, i, 1, 1, 0, a, e0, n0, t0) :: st) = st_h K st := st_h_n (fr_b_n (by omega))
  have hcs : fr_cs (K (40 * r + i)) 1 = 0 := by rw [hk]; rfl
  have hen : en_pop K V U r i 4 (V (40 * r + i)) t := ⟨by decide, fun _ => Or.inr rfl, fun z => absurd z (by decide), fun _ => hfo⟩
  refine g_popped P (e' := 4) (n' := V (40 * r + i)) (v' := v) (t' := t) (s' := s) (q' := q) (va' := va) (ou' := ou) W hen b6 hq (Nat.le_refl _) (by omega) b2 ?_ (g_y0 b1 ?_)
  · intro ET EP KE KN KV post hS h; obtain ⟨s0, sT, sP, s3, sb⟩ := hS
    rw [eR]
    exact xn_plain b2 (by omega) sT sP hok (by rw [hk]; exact ⟨by decide, by decide, by decide, by decide⟩) (xp_fins P hr hi b2 sT (by omega) (by omega) hs (xg_throw (by omega) hk (h (upd EP st.length _) (fun q hq => pk_un (by omega)))))
  · intro hd tg kd wo TK HT PH TG HW KS WR VL BG post hS hT h; obtain ⟨y0, yT, yH, yP, yC, yV, y3, yB⟩ := hS
    rw [eR]
    have hT1 := hT.1
    have hT2 := hT.2.1 rfl (by omega) hcs
    rw [hR, if_pos ⟨rfl, by omega, hcs⟩] at hT1
    rw [hR] at hT2
    subst hT1 hT2
    exact yw_s (by omega) (by omega) yT ((E r hr i hi).1.trans hk) yP (by decide) (by decide) (by decide) (yt_use (by decide) (by omega) (by omega) (yu_throw (yo_thr0 (by omega) yH (h _ _ _ _ VL (fun _ _ => rfl) (sy_pop_s W hs (st_pop W hen) (fun z => absurd z (by decide)) (fun _ => rfl) (fun _ => (E r hr i hi).2))))))
/-- RETURN -/
theorem g_return (P : pg_T K V Z U B LN) (E : pg_E K V KY VY LN) (W : st_wf K V U LN ((r, i, 1, 1, 0, a, e0, n0, t0) :: st)) (h12 : st_w K ((r, i, 1, 1, 0, a, e0, n0, t0) :: st) ≤ 12) (hq : q ≤ 300) (hk : K (40 * r + i) = 21) : GD f_expectedCount f_draftLength f_latestPlace f_place f_result f_thrown K V Z HB EX KY U LY VY B OP LN ((r, i, 1, 1, 0, a, e0, n0, t0) :: st) 0 n v t s q va ou := by
  obtain ⟨b1, b2, b3, b4, b5, b6, b7, hr, hi⟩ := wf_bd P W h12
  obtain ⟨hok, _, _⟩ := pg_tok P hr hi
  have hs : tk_so (K (40 * r + i)) = 1 := by rw [hk]; decide
  have hn : tk_np (K (40 * r + i)) (V (40 * r + i)) = 1 := by rw [hk]; rfl
  have eR : st_w K ((r, i, 1, 1, 0, a, e0, n0, t0) :: st) = st_w K st := st_w_n (fun z => by omega)
  have hR : st_h K ((r, i, 1, 1, 0, a, e0, n0, t0) :: st) = st_h K st := st_h_n (fr_b_n (by omega))
  have hcs : fr_cs (K (40 * r + i)) 1 = 0 := by rw [hk]; rfl
  have hen : en_pop K V U r i 3 0 t := ⟨by decide, fun z => by omega, fun z => absurd z (by decide), fun z => absurd z (by decide)⟩
  refine g_popped P (e' := 3) (n' := 0) (v' := v) (t' := t) (s' := s) (q' := q) (va' := va) (ou' := ou) W hen b6 hq (Nat.le_refl _) (by omega) b2 ?_ (g_y0 b1 ?_)
  · intro ET EP KE KN KV post hS h; obtain ⟨s0, sT, sP, s3, sb⟩ := hS
    rw [eR]
    exact xn_plain b2 (by omega) sT sP hok (by rw [hk]; exact ⟨by decide, by decide, by decide, by decide⟩) (xp_fins P hr hi b2 sT (by omega) (by omega) hs (xg_ret (by omega) hk (h (upd EP st.length _) (fun q hq => pk_un (by omega)))))
  · intro hd tg kd wo TK HT PH TG HW KS WR VL BG post hS hT h; obtain ⟨y0, yT, yH, yP, yC, yV, y3, yB⟩ := hS
    rw [eR]
    have hT1 := hT.1
    have hT2 := hT.2.1 rfl (by omega) hcs
    rw [hR, if_pos ⟨rfl, by omega, hcs⟩] at hT1
    rw [hR] at hT2
    subst hT1 hT2
    exact yw_s (by omega) (by omega) yT ((E r hr i hi).1.trans hk) yP (by decide) (by decide) (by decide) (yt_use (by decide) (by omega) (by omega) (yu_ret (yo_thr0 (by omega) yH (h _ _ _ _ VL (fun _ _ => rfl) (sy_pop_s W hs (st_pop W hen) (fun z => absurd z (by decide)) (fun _ => rfl) (fun z => absurd z (by decide)))))))
/-- SKIP -/
theorem g_skip (P : pg_T K V Z U B LN) (E : pg_E K V KY VY LN) (W : st_wf K V U LN ((r, i, 0, 0, 0, a, e0, n0, t0) :: st)) (h12 : st_w K ((r, i, 0, 0, 0, a, e0, n0, t0) :: st) ≤ 12) (hq : q ≤ 300) (hk : K (40 * r + i) = 15) : GD f_expectedCount f_draftLength f_latestPlace f_place f_result f_thrown K V Z HB EX KY U LY VY B OP LN ((r, i, 0, 0, 0, a, e0, n0, t0) :: st) 0 n v t s q va ou := by
  obtain ⟨b1, b2, b3, b4, b5, b6, b7, hr, hi⟩ := wf_bd P W h12
  obtain ⟨hok, _, _⟩ := pg_tok P hr hi
  have hs : tk_so (K (40 * r + i)) = 1 := by rw [hk]; decide
  have hn : tk_np (K (40 * r + i)) (V (40 * r + i)) = 0 := by rw [hk]; rfl
  have eR : st_w K ((r, i, 0, 0, 0, a, e0, n0, t0) :: st) = st_w K st := st_w_n (fun z => by omega)
  refine g_popped P (e' := 0) (n' := n) (v' := v) (t' := t) (s' := s) (q' := q) (va' := va) (ou' := ou) W en_0 b6 hq (Nat.le_refl _) (by omega) b2 ?_ (g_y0 b1 ?_)
  · intro ET EP KE KN KV post hS h; obtain ⟨s0, sT, sP, s3, sb⟩ := hS
    rw [eR]
    exact xn_plain b2 (by omega) sT sP hok (by rw [hk]; exact ⟨by decide, by decide, by decide, by decide⟩) (xp_fins P hr hi b2 sT (by omega) (by omega) hs (xg_skip (by omega) (Or.inl hk) (h (upd EP st.length _) (fun q hq => pk_un (by omega)))))
  · intro hd tg kd wo TK HT PH TG HW KS WR VL BG post hS hT h; obtain ⟨y0, yT, yH, yP, yC, yV, y3, yB⟩ := hS
    rw [eR]
    exact yw_s (by omega) (by omega) yT ((E r hr i hi).1.trans hk) yP (by decide) (by decide) (by decide) (yt_skip (by omega) yH (h _ _ _ _ VL (fun _ _ => rfl) (sy_pop_s W hs (st_pop W en_0) (fun z => absurd z (by decide)) (fun z => absurd z (by decide)) (fun z => absurd z (by decide)))))
/-- BREAK, CONTINUE -/
theorem g_jump (P : pg_T K V Z U B LN) (E : pg_E K V KY VY LN) (W : st_wf K V U LN ((r, i, 0, 0, 0, a, e0, n0, t0) :: st)) (h12 : st_w K ((r, i, 0, 0, 0, a, e0, n0, t0) :: st) ≤ 12) (hq : q ≤ 300) (hk : K (40 * r + i) = 19 ∨ K (40 * r + i) = 20) : GD f_expectedCount f_draftLength f_latestPlace f_place f_result f_thrown K V Z HB EX KY U LY VY B OP LN ((r, i, 0, 0, 0, a, e0, n0, t0) :: st) 0 n v t s q va ou := by
  obtain ⟨b1, b2, b3, b4, b5, b6, b7, hr, hi⟩ := wf_bd P W h12
  obtain ⟨hok, _, _⟩ := pg_tok P hr hi
  obtain ⟨p, tt, eu, hp, hN⟩ := ((P r hr (by omega)).2.2.2 i hi).2.2.2 hk
  have hs : tk_so (K (40 * r + i)) = 1 := by rcases hk with h | h <;> rw [h] <;> decide
  have hn : tk_np (K (40 * r + i)) (V (40 * r + i)) = 0 := by rcases hk with h | h <;> rw [h] <;> rfl
  have pl : tk_plain (K (40 * r + i)) := by rcases hk with h | h <;> rw [h] <;> exact ⟨by decide, by decide, by decide, by decide⟩
  have nm : ¬ tr_m (ro K r) (ro V r) (V (40 * r + i)) i := fun z => pl.2.2.1 z.1
  have hNi : tr_NL (ro K r) (ro V r) (ro U r) (V (40 * r + i)) i tt := tr_NL_p nm eu hp hN
  have eR : st_w K ((r, i, 0, 0, 0, a, e0, n0, t0) :: st) = st_w K st := st_w_n (fun z => by omega)
  have hen : ∀ ee : Int32, (ee = 1 ∨ ee = 2) → en_pop K V U r i ee (V (40 * r + i)) tt := fun ee hee => ⟨by rcases hee with h | h <;> rw [h] <;> decide, fun z => by omega, fun _ => ⟨hNi, nm⟩, fun z => by rcases hee with h | h <;> rw [h] at z <;> exact absurd z (by decide)⟩
  obtain ⟨ee, eee⟩ : ∃ ee : Int32, ee = if K (40 * r + i) = 19 then 1 else 2 := ⟨_, rfl⟩
  have hee : ee = 1 ∨ ee = 2 := by rw [eee]; split <;> decide
  refine g_popped P (e' := ee) (n' := V (40 * r + i)) (v' := 0) (t' := tt) (s' := s) (q' := q) (va' := va) (ou' := ou) W (hen ee hee) b6 hq (Nat.le_refl _) (by omega) b2 ?_ (g_y0 b1 ?_)
  · intro ET EP KE KN KV post hS h; obtain ⟨s0, sT, sP, s3, sb⟩ := hS
    rw [eR]
    have h' := h (upd EP st.length (nI (0 + 1))) (fun q hq => pk_un (by omega))
    refine xn_plain b2 (by omega) sT sP hok pl (xp_fins P hr hi b2 sT (by omega) (by omega) hs ?_)
    rcases hk with hk | hk
    · rw [if_pos hk] at eee
      subst eee
      exact xg_break (by omega) hk h'
    · rw [if_neg (by rw [hk]; decide)] at eee
      subst eee
      exact xg_cont (by omega) hk h'
  · intro hd tg kd wo TK HT PH TG HW KS WR VL BG post hS hT h; obtain ⟨y0, yT, yH, yP, yC, yV, y3, yB⟩ := hS
    rw [eR]
    refine yw_s (by omega) (by omega) yT (E r hr i hi).1 yP (by rcases hk with h | h <;> rw [h] <;> decide) pl.2.2.2 pl.2.2.1 (yt_jump P E hr hi (by omega) yH hk eu hp hN ?_)
    rw [← eee]
    exact h _ _ _ _ VL (fun _ _ => rfl) (sy_pop_s W hs (st_pop W (hen ee hee)) (fun _ => rfl) (fun z => by rcases hee with h | h <;> rw [h] at z <;> exact absurd z (by decide)) (fun z => by rcases hee with h | h <;> rw [h] at z <;> exact absurd z (by decide)))
end
end
section
section
variable {f_expectedCount f_draftLength f_latestPlace f_place f_result f_thrown : Int32} {K V Z HB EX KY U LY VY B OP va ou : Nat → Int32} {LN : Nat → Nat} {r i p y c : Nat} {a e0 n0 e n v : Int32} {t0 t s q : Nat} {st : List Fr}
/-- a statement that is no loop of that label gives the ending on -/
theorem en_pass (he : en_ok K V U r i e n t) (hs : tk_so (K (40 * r + i)) = 1) (hm : (e = 1 ∨ e = 2) → ¬ tr_m (ro K r) (ro V r) n i) : en_pop K V U r i e n t := ⟨he.1, fun z => by omega, fun z => ⟨he.2.1 z, hm z⟩, he.2.2⟩
/-- a statement gives an ending on -/
theorem g_out (P : pg_T K V Z U B LN) (E : pg_E K V KY VY LN) (W : st_wf K V U LN ((r, i, p, y, 0, a, e0, n0, t0) :: st)) (h12 : st_w K ((r, i, p, y, 0, a, e0, n0, t0) :: st) ≤ 12) (hq : q ≤ 300) (he : en_ok K V U r i e n t) (h0 : ¬ e = 0) (hk : K (40 * r + i) = 10 ∨ K (40 * r + i) = 11 ∨ K (40 * r + i) = 14 ∨ K (40 * r + i) = 16 ∨ K (40 * r + i) = 21 ∨ (K (40 * r + i) = 12 ∧ (p = 1 ∨ p = 2))) (hy : y = 1 ∨ y = 2 ∨ y = 3) : GD f_expectedCount f_draftLength f_latestPlace f_place f_result f_thrown K V Z HB EX KY U LY VY B OP LN ((r, i, p, y, 0, a, e0, n0, t0) :: st) e n v t s q va ou := by
  obtain ⟨b1, b2, b3, b4, b5, b6, b7, hr, hi⟩ := wf_bd P W h12
  obtain ⟨hok, _, _⟩ := pg_tok P hr hi
  have hs : tk_so (K (40 * r + i)) = 1 := by rcases hk with h | h | h | h | h | ⟨h, _⟩ <;> rw [h] <;> decide
  have n13 : ¬ K (40 * r + i) = 13 := by rcases hk with h | h | h | h | h | ⟨h, _⟩ <;> rw [h] <;> decide
  have n17 : ¬ K (40 * r + i) = 17 := by rcases hk with h | h | h | h | h | ⟨h, _⟩ <;> rw [h] <;> decide
  have n8 : ¬ K (40 * r + i) = 8 := by rcases hk with h | h | h | h | h | ⟨h, _⟩ <;> rw [h] <;> decide
  have eR : st_w K ((r, i, p, y, 0, a, e0, n0, t0) :: st) = st_w K st := st_w_n (fun z => n8 z.1)
  have hen : en_pop K V U r i e n t := en_pass he hs (fun _ z => n13 z.1)
  refine g_popped P (e' := e) (n' := n) (v' := v) (t' := t) (s' := s) (q' := q) (va' := va) (ou' := ou) W hen b6 hq (Nat.le_refl _) (by omega) b2 ?_ (g_y0 b1 ?_)
  · intro ET EP KE KN KV post hS h; obtain ⟨s0, sT, sP, s3, sb⟩ := hS
    rw [eR]
    by_cases k12 : K (40 * r + i) = 12
    · have hp : p = 1 ∨ p = 2 := by
        rcases hk with h | h | h | h | h | ⟨_, h⟩
        · exact absurd (h.symm.trans k12) (by decide)
        · exact absurd (h.symm.trans k12) (by decide)
        · exact absurd (h.symm.trans k12) (by decide)
        · exact absurd (h.symm.trans k12) (by decide)
        · exact absurd (h.symm.trans k12) (by decide)
        · exact h
      exact xn_if b2 (by omega) sT sP k12 (xi_stop (hp.elim (fun z => Or.inr ⟨z, h0⟩) Or.inl) (h (upd EP st.length _) (fun q hq => pk_un (by omega))))
    · exact xn_plain b2 (by omega) sT sP hok ⟨n8, k12, n13, n17⟩ (xp_stop b2 h0 (h (upd EP st.length _) (fun q hq => pk_un (by omega))))
  · intro hd tg kd wo TK HT PH TG HW KS WR VL BG post hS hT h; obtain ⟨y0, yT, yH, yP, yC, yV, y3, yB⟩ := hS
    rw [eR]
    refine yw_s (by omega) (by omega) yT (E r hr i hi).1 yP (by rcases hk with h | h | h | h | h | ⟨h, _⟩ <;> rw [h] <;> decide) n17 n13 (yt_out (by omega) yH (h _ _ _ _ VL (fun _ _ => rfl) (sy_pop_s W hs (st_pop W hen) hT.2.2.1 hT.2.2.2.1 hT.2.2.2.2)) ?_ hy h0)
    rcases hk with h | h | h | h | h | ⟨h, _⟩ <;> rw [h] <;> decide
/-- SEQ and IF end -/
theorem g_end (P : pg_T K V Z U B LN) (E : pg_E K V KY VY LN) (W : st_wf K V U LN ((r, i, 2, y, 0, a, e0, n0, t0) :: st)) (h12 : st_w K ((r, i, 2, y, 0, a, e0, n0, t0) :: st) ≤ 12) (hq : q ≤ 300) (hk : (K (40 * r + i) = 14 ∧ y = 2) ∨ (K (40 * r + i) = 12 ∧ (y = 2 ∨ y = 3))) : GD f_expectedCount f_draftLength f_latestPlace f_place f_result f_thrown K V Z HB EX KY U LY VY B OP LN ((r, i, 2, y, 0, a, e0, n0, t0) :: st) 0 n v t s q va ou := by
  obtain ⟨b1, b2, b3, b4, b5, b6, b7, hr, hi⟩ := wf_bd P W h12
  obtain ⟨hok, _, _⟩ := pg_tok P hr hi
  have hs : tk_so (K (40 * r + i)) = 1 := by rcases hk with ⟨h, _⟩ | ⟨h, _⟩ <;> rw [h] <;> decide
  have n8 : ¬ K (40 * r + i) = 8 := by rcases hk with ⟨h, _⟩ | ⟨h, _⟩ <;> rw [h] <;> decide
  have eR : st_w K ((r, i, 2, y, 0, a, e0, n0, t0) :: st) = st_w K st := st_w_n (fun z => n8 z.1)
  refine g_popped P (e' := 0) (n' := n) (v' := v) (t' := t) (s' := s) (q' := q) (va' := va) (ou' := ou) W en_0 b6 hq (Nat.le_refl _) (by omega) b2 ?_ (g_y0 b1 ?_)
  · intro ET EP KE KN KV post hS h; obtain ⟨s0, sT, sP, s3, sb⟩ := hS
    rw [eR]
    rcases hk with ⟨hk, _⟩ | ⟨hk, _⟩
    · have hn : tk_np (K (40 * r + i)) (V (40 * r + i)) = 2 := by rw [hk]; rfl
      exact xn_plain b2 (by omega) sT sP hok (by rw [hk]; exact ⟨by decide, by decide, by decide, by decide⟩) (xp_fins P hr hi b2 sT (by omega) (by omega) hs (xg_skip (by omega) (Or.inr hk) (h (upd EP st.length _) (fun q hq => pk_un (by omega)))))
    · exact xn_if b2 (by omega) sT sP hk (xi_stop (Or.inl rfl) (h (upd EP st.length _) (fun q hq => pk_un (by omega))))
  · intro hd tg kd wo TK HT PH TG HW KS WR VL BG post hS hT h; obtain ⟨y0, yT, yH, yP, yC, yV, y3, yB⟩ := hS
    rw [eR]
    refine yw_s (by omega) (by omega) yT (E r hr i hi).1 yP (by rcases hk with ⟨h, _⟩ | ⟨h, _⟩ <;> rw [h] <;> decide) (by rcases hk with ⟨h, _⟩ | ⟨h, _⟩ <;> rw [h] <;> decide) (by rcases hk with ⟨h, _⟩ | ⟨h, _⟩ <;> rw [h] <;> decide) (yt_end (by omega) yH (h _ _ _ _ VL (fun _ _ => rfl) (sy_pop_s W hs (st_pop W en_0) (fun z => absurd z (by decide)) (fun z => absurd z (by decide)) (fun z => absurd z (by decide)))) ?_)
    rcases hk with ⟨h, h'⟩ | ⟨h, h'⟩
    · exact Or.inr (Or.inl ⟨h, h'⟩)
    · exact Or.inl ⟨h, h'⟩
/-- WHILE: the condition is 0 -/
theorem g_w1z (P : pg_T K V Z U B LN) (E : pg_E K V KY VY LN) (W : st_wf K V U LN ((r, i, 1, 1, 0, a, e0, n0, t0) :: st)) (h12 : st_w K ((r, i, 1, 1, 0, a, e0, n0, t0) :: st) ≤ 12) (hq : q ≤ 300) (hk : K (40 * r + i) = 13) (hv : v = 0) : GD f_expectedCount f_draftLength f_latestPlace f_place f_result f_thrown K V Z HB EX KY U LY VY B OP LN ((r, i, 1, 1, 0, a, e0, n0, t0) :: st) 0 n v t s q va ou := by
  obtain ⟨b1, b2, b3, b4, b5, b6, b7, hr, hi⟩ := wf_bd P W h12
  have hs : tk_so (K (40 * r + i)) = 1 := by rw [hk]; decide
  have eR : st_w K ((r, i, 1, 1, 0, a, e0, n0, t0) :: st) = st_w K st := st_w_n (fun z => by omega)
  have hR : st_h K ((r, i, 1, 1, 0, a, e0, n0, t0) :: st) = st_h K st := st_h_n (fr_b_n (by omega))
  have hcs : fr_cs (K (40 * r + i)) 1 = 0 := by rw [hk]; rfl
  refine g_popped P (e' := 0) (n' := n) (v' := v) (t' := t) (s' := s) (q' := q) (va' := va) (ou' := ou) W en_0 b6 hq (Nat.le_refl _) (by omega) b2 ?_ (g_y0 b1 ?_)
  · intro ET EP KE KN KV post hS h; obtain ⟨s0, sT, sP, s3, sb⟩ := hS
    rw [eR]
    exact xn_while b2 (by omega) sT sP hk (xw_1stop b2 (fun _ => hv) (h (upd EP st.length _) (fun q hq => pk_un (by omega))))
  · intro hd tg kd wo TK HT PH TG HW KS WR VL BG post hS hT h; obtain ⟨y0, yT, yH, yP, yC, yV, y3, yB⟩ := hS
    rw [eR]
    have hT1 := hT.1
    have hT2 := hT.2.1 rfl (by omega) hcs
    rw [hR, if_pos ⟨rfl, by omega, hcs⟩] at hT1
    rw [hR] at hT2
    subst hT1
    exact yw_w (by omega) (by omega) yT ((E r hr i hi).1.trans hk) yP (yq_1z (by omega) (by omega) yH (hT2.trans hv) (h _ _ _ _ VL (fun _ _ => rfl) (sy_pop_s W hs (st_pop W en_0) (fun z => absurd z (by decide)) (fun z => absurd z (by decide)) (fun z => absurd z (by decide)))))
/-- WHILE: a BREAK to it -/
theorem g_w2b (P : pg_T K V Z U B LN) (E : pg_E K V KY VY LN) (W : st_wf K V U LN ((r, i, 2, 2, 0, a, e0, n0, t0) :: st)) (h12 : st_w K ((r, i, 2, 2, 0, a, e0, n0, t0) :: st) ≤ 12) (hq : q ≤ 300) (hk : K (40 * r + i) = 13) (hn : n = V (40 * r + i)) (ht : t = i) : GD f_expectedCount f_draftLength f_latestPlace f_place f_result f_thrown K V Z HB EX KY U LY VY B OP LN ((r, i, 2, 2, 0, a, e0, n0, t0) :: st) 1 n v t s q va ou := by
  obtain ⟨b1, b2, b3, b4, b5, b6, b7, hr, hi⟩ := wf_bd P W h12
  have hs : tk_so (K (40 * r + i)) = 1 := by rw [hk]; decide
  have eR : st_w K ((r, i, 2, 2, 0, a, e0, n0, t0) :: st) = st_w K st := st_w_n (fun z => absurd (hk.symm.trans z.1) (by decide))
  subst hn
  refine g_popped P (e' := 0) (n' := V (40 * r + i)) (v' := v) (t' := t) (s' := s) (q' := q) (va' := va) (ou' := ou) W en_0 b6 hq (Nat.le_refl _) (by omega) b2 ?_ (g_y0 b1 ?_)
  · intro ET EP KE KN KV post hS h; obtain ⟨s0, sT, sP, s3, sb⟩ := hS
    rw [eR]
    exact xn_while b2 (by omega) sT sP hk (xw_2brk b2 (by omega) sT (h (upd EP st.length _) (fun q hq => pk_un (by omega))))
  · intro hd tg kd wo TK HT PH TG HW KS WR VL BG post hS hT h; obtain ⟨y0, yT, yH, yP, yC, yV, y3, yB⟩ := hS
    rw [eR]
    have e4 := hT.2.2.1 (Or.inl rfl)
    rw [ht] at e4
    subst e4
    exact yw_w (by omega) (by omega) yT ((E r hr i hi).1.trans hk) yP (yq_2b (by omega) yH (h _ _ _ _ VL (fun _ _ => rfl) (sy_pop_s W hs (st_pop W en_0) (fun z => absurd z (by decide)) (fun z => absurd z (by decide)) (fun z => absurd z (by decide)))))
/-- WHILE: an ending that isn't its own -/
theorem g_wout (P : pg_T K V Z U B LN) (E : pg_E K V KY VY LN) (W : st_wf K V U LN ((r, i, p, p, 0, a, e0, n0, t0) :: st)) (h12 : st_w K ((r, i, p, p, 0, a, e0, n0, t0) :: st) ≤ 12) (hq : q ≤ 300) (he : en_ok K V U r i e n t) (h0 : ¬ e = 0) (hk : K (40 * r + i) = 13) (hp : p = 1 ∨ p = 2) (hn : (e = 1 ∨ e = 2) → ¬ n = V (40 * r + i)) : GD f_expectedCount f_draftLength f_latestPlace f_place f_result f_thrown K V Z HB EX KY U LY VY B OP LN ((r, i, p, p, 0, a, e0, n0, t0) :: st) e n v t s q va ou := by
  obtain ⟨b1, b2, b3, b4, b5, b6, b7, hr, hi⟩ := wf_bd P W h12
  have hs : tk_so (K (40 * r + i)) = 1 := by rw [hk]; decide
  have eR : st_w K ((r, i, p, p, 0, a, e0, n0, t0) :: st) = st_w K st := st_w_n (fun z => absurd (hk.symm.trans z.1) (by decide))
  have nm : (e = 1 ∨ e = 2) → ¬ tr_m (ro K r) (ro V r) n i := fun z z2 => hn z z2.2.symm
  have hen : en_pop K V U r i e n t := en_pass he hs nm
  refine g_popped P (e' := e) (n' := n) (v' := v) (t' := t) (s' := s) (q' := q) (va' := va) (ou' := ou) W hen b6 hq (Nat.le_refl _) (by omega) b2 ?_ (g_y0 b1 ?_)
  · intro ET EP KE KN KV post hS h; obtain ⟨s0, sT, sP, s3, sb⟩ := hS
    rw [eR]
    rcases hp with rfl | rfl
    · exact xn_while b2 (by omega) sT sP hk (xw_1stop b2 (fun z => (h0 z).elim) (h (upd EP st.length _) (fun q hq => pk_un (by omega))))
    · exact xn_while b2 (by omega) sT sP hk (xw_2out b2 (by omega) sT h0 hn (h (upd EP st.length _) (fun q hq => pk_un (by omega))))
  · intro hd tg kd wo TK HT PH TG HW KS WR VL BG post hS hT h; obtain ⟨y0, yT, yH, yP, yC, yV, y3, yB⟩ := hS
    rw [eR]
    refine yw_w (by omega) (by omega) yT ((E r hr i hi).1.trans hk) yP (yq_out (by omega) yH hp h0 (fun z z2 => ?_) (h _ _ _ _ VL (fun _ _ => rfl) (sy_pop_s W hs (st_pop W hen) hT.2.2.1 hT.2.2.2.1 hT.2.2.2.2)))
    have hL := (P r hr (by omega)).2.1
    have hNL := tr_NL_le (he.2.1 z)
    have e4 := (hT.2.2.1 z).symm.trans z2
    have e5 : t = i := by
      have := (nI_eq (by omega) (by omega)).mp e4
      omega
    rw [e5] at hNL
    exact nm z hNL.2
/-- TRY: no catch, no finally part -/
theorem g_t1n (P : pg_T K V Z U B LN) (E : pg_E K V KY VY LN) (W : st_wf K V U LN ((r, i, 1, 1, 0, a, e0, n0, t0) :: st)) (h12 : st_w K ((r, i, 1, 1, 0, a, e0, n0, t0) :: st) ≤ 12) (hq : q ≤ 300) (he : en_ok K V U r i e n t) (hk : K (40 * r + i) = 17) (hf : tk_fn (V (40 * r + i)) = 0) (hno : e = 4 → ∀ b, 1 ≤ b → b ≤ tk_cn (V (40 * r + i)) → ¬ ct_m V Z r i n b) : GD f_expectedCount f_draftLength f_latestPlace f_place f_result f_thrown K V Z HB EX KY U LY VY B OP LN ((r, i, 1, 1, 0, a, e0, n0, t0) :: st) e n v t s q va ou := by
  obtain ⟨b1, b2, b3, b4, b5, b6, b7, hr, hi⟩ := wf_bd P W h12
  obtain ⟨hok, _, _⟩ := pg_tok P hr hi
  have hs : tk_so (K (40 * r + i)) = 1 := by rw [hk]; decide
  have eR : st_w K ((r, i, 1, 1, 0, a, e0, n0, t0) :: st) = st_w K st := st_w_n (fun z => by omega)
  have hen : en_pop K V U r i e n t := en_pass he hs (fun _ z => absurd (hk.symm.trans z.1) (by decide))
  refine g_popped P (e' := e) (n' := n) (v' := v) (t' := t) (s' := s) (q' := q) (va' := va) (ou' := ou) W hen b6 hq (Nat.le_refl _) (by omega) b2 ?_ (g_y0 b1 ?_)
  · intro ET EP KE KN KV post hS h; obtain ⟨s0, sT, sP, s3, sb⟩ := hS
    rw [eR]
    refine xn_try b2 (by omega) sT sP hk ?_
    by_cases h4 : e = 4
    · subst h4
      exact xt_hand P hr hi hk b2 sT b7 b6 (fun c m c1 c2 cm _ _ _ => (hno rfl c c1 c2 cm).elim) (fun _ => xt_81n (by omega) (hk ▸ hok) hf (h (upd EP st.length _) (fun q hq => pk_un (by omega))))
    · exact xt_1 b2 sT h4 (xt_81n (by omega) (hk ▸ hok) hf (h (upd EP st.length _) (fun q hq => pk_un (by omega))))
  · intro hd tg kd wo TK HT PH TG HW KS WR VL BG post hS hT h; obtain ⟨y0, yT, yH, yP, yC, yV, y3, yB⟩ := hS
    rw [eR]
    have g : wY_attempt_47 post (nI (40 * r + i)) (nI 1) (nI (tk_cn (V (40 * r + i)))) (nI (1 + tk_cn (V (40 * r + i)))) 0 f_place (nI (st_y st + 1)) hd (nI (st_w K st)) e tg kd wo (nI q) (nI s) f_result f_thrown 0 KY U LY VY B OP TK HT TG PH HW KS WR VL va BG ou := yz_none P E hr hi hk (by omega) (by omega) hf (by omega) yH (h _ _ _ _ VL (fun _ _ => rfl) (sy_pop_s W hs (st_pop W hen) hT.2.2.1 hT.2.2.2.1 hT.2.2.2.2))
    refine yw_t (by omega) (by omega) yT ((E r hr i hi).1.trans hk) yP ?_
    by_cases h4 : e = 4
    · subst h4
      have := hT.2.2.2.2 rfl
      subst this
      exact yz_nohand P E hr hi hk (hno rfl) g
    · exact yz_46 P E hr hi hk (by omega) (by omega) (fun _ => h4) g
/-- TRY: behind a catch, no finally part -/
theorem g_t2n (P : pg_T K V Z U B LN) (E : pg_E K V KY VY LN) (W : st_wf K V U LN ((r, i, 2, c + 1, c, a, e0, n0, t0) :: st)) (h12 : st_w K ((r, i, 2, c + 1, c, a, e0, n0, t0) :: st) ≤ 12) (hq : q ≤ 300) (he : en_ok K V U r i e n t) (hk : K (40 * r + i) = 17) (c1 : 1 ≤ c) (c2 : c ≤ tk_cn (V (40 * r + i))) (hf : tk_fn (V (40 * r + i)) = 0) : GD f_expectedCount f_draftLength f_latestPlace f_place f_result f_thrown K V Z HB EX KY U LY VY B OP LN ((r, i, 2, c + 1, c, a, e0, n0, t0) :: st) e n v t s q va ou := by
  obtain ⟨b1, b2, b3, b4, b5, b6, b7, hr, hi⟩ := wf_bd P W h12
  obtain ⟨hok, _, _⟩ := pg_tok P hr hi
  have hcn := tk_cn_le (V (40 * r + i))
  have hs : tk_so (K (40 * r + i)) = 1 := by rw [hk]; decide
  have eR : st_w K ((r, i, 2, c + 1, c, a, e0, n0, t0) :: st) = st_w K st := st_w_n (fun z => absurd (hk.symm.trans z.1) (by decide))
  have hen : en_pop K V U r i e n t := en_pass he hs (fun _ z => absurd (hk.symm.trans z.1) (by decide))
  refine g_popped P (e' := e) (n' := n) (v' := v) (t' := t) (s' := s) (q' := q) (va' := va) (ou' := ou) W hen b6 hq (Nat.le_refl _) (by omega) b2 ?_ ⟨2, ?_⟩
  · intro ET EP KE KN KV post hS h; obtain ⟨s0, sT, sP, s3, sb⟩ := hS
    rw [eR]
    exact xn_try b2 (by omega) sT sP hk (xt_2 b2 sT (xt_81n (by omega) (hk ▸ hok) hf (h (upd EP st.length _) (fun q hq => pk_un (by omega)))))
  · intro post mm h hd tg kd wo TK HT PH TG HW KS WR VL BG hS hT
    refine y_catch P E W h12 hk c1 c2 hS ?_
    obtain ⟨y0, yT, yH, yP, yC, yV, y3, yB⟩ := hS
    refine yw_t (by omega) (by omega) yT ((E r hr i hi).1.trans hk) yP (yz_46 P E hr hi hk (by omega) (by omega) (fun z => by omega) (yz_none P E hr hi hk (by omega) (by omega) hf (by omega) yH ?_))
    exact yk_pop y0 (sy_pop_s W hs (st_pop W hen) hT.2.2.1 hT.2.2.2.1 hT.2.2.2.2) h
/-- TRY: the finally part has ended -/
theorem g_t3 (P : pg_T K V Z U B LN) (E : pg_E K V KY VY LN) (W : st_wf K V U LN ((r, i, 3, 4, 0, a, e0, n0, t0) :: st)) (h12 : st_w K ((r, i, 3, 4, 0, a, e0, n0, t0) :: st) ≤ 12) (hq : q ≤ 300) (he : en_ok K V U r i e n t) (hk : K (40 * r + i) = 17) : GD f_expectedCount f_draftLength f_latestPlace f_place f_result f_thrown K V Z HB EX KY U LY VY B OP LN ((r, i, 3, 4, 0, a, e0, n0, t0) :: st) e n v t s q va ou := by
  obtain ⟨b1, b2, b3, b4, b5, b6, b7, hr, hi⟩ := wf_bd P W h12
  have hs : tk_so (K (40 * r + i)) = 1 := by rw [hk]; decide
  have eR : st_w K ((r, i, 3, 4, 0, a, e0, n0, t0) :: st) = st_w K st := st_w_n (fun z => by omega)
  by_cases h0 : e = 0
  · subst h0
    have he0 := W.2.2.2.2.2.2.1 rfl
    have hen : en_pop K V U r i e0 n0 t0 := en_pass he0 hs (fun _ z => absurd (hk.symm.trans z.1) (by decide))
    refine g_popped P (e' := e0) (n' := n0) (v' := a) (t' := t0) (s' := s) (q' := q) (va' := va) (ou' := ou) W hen b6 hq (Nat.le_refl _) (by omega) b2 ?_ (g_y0 b1 ?_)
    · intro ET EP KE KN KV post hS h; obtain ⟨s0, sT, sP, s3, sb⟩ := hS
      rw [eR]
      obtain ⟨u1, u2, u3⟩ := s3 rfl
      refine xn_try b2 (by omega) sT sP hk (xt_3back b2 ?_)
      rw [u1, u2, u3]
      exact (h (upd EP st.length _) (fun q hq => pk_un (by omega)))
    · intro hd tg kd wo TK HT PH TG HW KS WR VL BG post hS hT h; obtain ⟨y0, yT, yH, yP, yC, yV, y3, yB⟩ := hS
      rw [eR]
      obtain ⟨u1, u2, u3, u4⟩ := y3 rfl
      refine yw_t (by omega) (by omega) yT ((E r hr i hi).1.trans hk) yP (yz_46 P E hr hi hk (by omega) (by omega) (fun z => by omega) (yz_back P hr hi (by omega) yH ?_))
      rw [u1]
      exact h _ _ _ _ VL (fun _ _ => rfl) (sy_pop_s W hs (st_pop W hen) u2 u3 u4)
  · have hen : en_pop K V U r i e n t := en_pass he hs (fun _ z => absurd (hk.symm.trans z.1) (by decide))
    refine g_popped P (e' := e) (n' := n) (v' := v) (t' := t) (s' := s) (q' := q) (va' := va) (ou' := ou) W hen b6 hq (Nat.le_refl _) (by omega) b2 ?_ (g_y0 b1 ?_)
    · intro ET EP KE KN KV post hS h; obtain ⟨s0, sT, sP, s3, sb⟩ := hS
      rw [eR]
      exact xn_try b2 (by omega) sT sP hk (xt_3out b2 h0 (h (upd EP st.length _) (fun q hq => pk_un (by omega))))
    · intro hd tg kd wo TK HT PH TG HW KS WR VL BG post hS hT h; obtain ⟨y0, yT, yH, yP, yC, yV, y3, yB⟩ := hS
      rw [eR]
      exact yw_t (by omega) (by omega) yT ((E r hr i hi).1.trans hk) yP (yz_46 P E hr hi hk (by omega) (by omega) (fun z => by omega) (yz_4out (by omega) yH h0 (h _ _ _ _ VL (fun _ _ => rfl) (sy_pop_s W hs (st_pop W hen) hT.2.2.1 hT.2.2.2.1 hT.2.2.2.2))))
/-- the steps are used up: a loop -/
theorem o_while (P : pg_T K V Z U B LN) (E : pg_E K V KY VY LN) (W : st_wf K V U LN ((r, i, p, p, 0, a, e0, n0, t0) :: st)) (h12 : st_w K ((r, i, p, p, 0, a, e0, n0, t0) :: st) ≤ 12) (hk : K (40 * r + i) = 13) (hp : p = 0 ∧ e = 0 ∨ p = 2 ∧ (e = 0 ∨ (e = 2 ∧ n = V (40 * r + i) ∧ t = i))) : OV f_expectedCount f_draftLength f_latestPlace f_place f_result f_thrown K V Z HB EX KY U LY VY B OP LN ((r, i, p, p, 0, a, e0, n0, t0) :: st) e n v t s 300 va ou := by
  obtain ⟨b1, b2, b3, b4, b5, b6, b7, hr, hi⟩ := wf_bd P W h12
  refine ⟨rfl, fun post turn ht h ET EP KE KN KV hS => ?_, fun post h hd tg kd wo TK HT PH TG HW KS WR VL BG hS hT => ?_⟩
  · obtain ⟨s0, sT, sP, s3, sb⟩ := hS
    have hj : 40 * r + i < 200 := by omega
    refine xs_enter (m := 1) ht (by omega) ?_
    rcases hp with ⟨rfl, rfl⟩ | ⟨rfl, hp⟩
    · exact xn_while b2 hj sT sP hk (xw_0 b2 hj sT (xw_over (xk_over h)))
    · exact xn_while b2 hj sT sP hk (xw_2go b2 hj sT (hp.imp id (fun z => ⟨z.1, z.2.1⟩)) (xw_over (xk_over h)))
  · obtain ⟨y0, yT, yH, yP, yC, yV, y3, yB⟩ := hS
    refine ys_enter (m := 1) (T := st_y st) (by omega) ?_
    rcases hp with ⟨rfl, rfl⟩ | ⟨rfl, rfl | ⟨rfl, _, ti⟩⟩
    · exact yw_w (by omega) (by omega) yT ((E r hr i hi).1.trans hk) yP (yq_0 (yq_over (yk_over h)))
    · exact yw_w (by omega) (by omega) yT ((E r hr i hi).1.trans hk) yP (yq_2n (yq_over (yk_over h)))
    · have e4 := hT.2.2.1 (Or.inr rfl)
      rw [ti] at e4
      subst e4
      exact yw_w (by omega) (by omega) yT ((E r hr i hi).1.trans hk) yP (yq_2c (yq_over (yk_over h)))
/-- the steps are used up: a call -/
theorem o_call (P : pg_T K V Z U B LN) (E : pg_E K V KY VY LN) (W : st_wf K V U LN ((r, i, 1, 1, 0, a, e0, n0, t0) :: st)) (h12 : st_w K ((r, i, 1, 1, 0, a, e0, n0, t0) :: st) ≤ 12) (hk : K (40 * r + i) = 8) {f : Nat} (hf : f < 4) (hv : V (40 * r + i) = nI f) (hb : HB f = 1) (hl : ¬ LY f = 0) : OV f_expectedCount f_draftLength f_latestPlace f_place f_result f_thrown K V Z HB EX KY U LY VY B OP LN ((r, i, 1, 1, 0, a, e0, n0, t0) :: st) 0 n v t s 300 va ou := by
  obtain ⟨b1, b2, b3, b4, b5, b6, b7, hr, hi⟩ := wf_bd P W h12
  obtain ⟨hok, _, _⟩ := pg_tok P hr hi
  have hn : tk_np (K (40 * r + i)) (V (40 * r + i)) = 1 := by rw [hk]; rfl
  have hR : st_h K ((r, i, 1, 1, 0, a, e0, n0, t0) :: st) = st_h K st := st_h_n (fr_b_n (by omega))
  have hcs : fr_cs (K (40 * r + i)) 1 = 0 := by rw [hk]; rfl
  refine ⟨rfl, fun post turn ht h ET EP KE KN KV hS => ?_, fun post h hd tg kd wo TK HT PH TG HW KS WR VL BG hS hT => ?_⟩
  · obtain ⟨s0, sT, sP, s3, sb⟩ := hS
    exact xs_enter (m := 1) ht (by omega) (xn_call b2 (by omega) sT sP hk (xc_1go b2 (by omega) sT hv (xb_over hf hb (xk_over h))))
  · obtain ⟨y0, yT, yH, yP, yC, yV, y3, yB⟩ := hS
    have hT1 := hT.1
    rw [hR, if_pos ⟨rfl, by omega, hcs⟩] at hT1
    subst hT1
    refine ys_enter (m := 1) (T := st_y st) (by omega) (yw_x (by omega) (by omega) yT ((E r hr i hi).1.trans hk) yP (by decide) (ye_in (hk ▸ hok) (by decide) (fun _ => by omega) (by omega) ?_))
    rw [hk] at hn
    rw [hn]
    exact yc_over (by omega) (by omega) (by omega) hf ((E r hr i hi).2.trans hv) hl (yk_over h)
end
end
section
/-- the bodies on both sides -/
def pg_H (HB LY : Nat → Int32) (LN : Nat → Nat) : Prop := ∀ f, f < 4 → (HB f = 0 ∧ LY f = 0) ∨ (1 ≤ LN f ∧ HB f = 1 ∧ ¬ LY f = 0)
theorem tk_fn01 (v : Int32) : tk_fn v = 0 ∨ tk_fn v = 1 := by
  unfold tk_fn
  split
  · exact Or.inl rfl
  · exact Or.inr rfl
section
variable {f_expectedCount f_draftLength f_latestPlace f_place f_result f_thrown : Int32} {K V Z HB EX KY U LY VY B OP va ou : Nat → Int32} {LN : Nat → Nat} {r i p y c : Nat} {a e0 n0 e n v : Int32} {t0 t s q : Nat} {st : List Fr}
theorem ct_dec (n : Int32) (cn : Nat) (h2 : cn ≤ 2) : (∃ c, 1 ≤ c ∧ c ≤ cn ∧ ct_m V Z r i n c ∧ ∀ b, 1 ≤ b → b < c → ¬ ct_m V Z r i n b) ∨ ∀ b, 1 ≤ b → b ≤ cn → ¬ ct_m V Z r i n b := by
  by_cases h1 : 1 ≤ cn ∧ ct_m V Z r i n 1
  · exact Or.inl ⟨1, Nat.le_refl _, h1.1, h1.2, fun b b1 b2 => by omega⟩
  · by_cases h3 : 2 ≤ cn ∧ ct_m V Z r i n 2
    · refine Or.inl ⟨2, by omega, h3.1, h3.2, fun b b1 b2 z => ?_⟩
      have : b = 1 := by omega
      subst this
      exact h1 ⟨by omega, z⟩
    · refine Or.inr (fun b b1 b2 z => ?_)
      have : b = 1 ∨ b = 2 := by omega
      rcases this with rfl | rfl
      · exact h1 ⟨b2, z⟩
      · exact h3 ⟨b2, z⟩
/-- TRY -/
theorem s_try (P : pg_T K V Z U B LN) (E : pg_E K V KY VY LN) (W : st_wf K V U LN ((r, i, p, y, c, a, e0, n0, t0) :: st)) (h12 : st_w K ((r, i, p, y, c, a, e0, n0, t0) :: st) ≤ 12) (hq : q ≤ 300) (he : en_ok K V U r i e n t) (hp0 : p = 0 → e = 0) (hk : K (40 * r + i) = 17) (hf : (p = 0 ∧ y = 0 ∧ c = 0) ∨ (p = 1 ∧ y = 1 ∧ c = 0) ∨ (p = 2 ∧ y = c + 1 ∧ 1 ≤ c ∧ c ≤ tk_cn (V (40 * r + i))) ∨ (p = 3 ∧ y = 4 ∧ c = 0 ∧ tk_fn (V (40 * r + i)) = 1)) : GD f_expectedCount f_draftLength f_latestPlace f_place f_result f_thrown K V Z HB EX KY U LY VY B OP LN ((r, i, p, y, c, a, e0, n0, t0) :: st) e n v t s q va ou := by
  rcases hf with ⟨rfl, rfl, rfl⟩ | ⟨rfl, rfl, rfl⟩ | ⟨rfl, rfl, c1, c2⟩ | ⟨rfl, rfl, rfl, _⟩
  · have := hp0 rfl
    subst this
    exact g_try0 P E W h12 hq hk
  · by_cases h4 : e = 4
    · subst h4
      rcases ct_dec (V := V) (Z := Z) (r := r) (i := i) n _ (tk_cn_le (V (40 * r + i))) with ⟨c, c1, c2, c3, c4⟩ | hno
      · exact g_hand P E W h12 hq hk c1 c2 c3 c4
      · rcases tk_fn01 (V (40 * r + i)) with hf | hf
        · exact g_t1n P E W h12 hq he hk hf (fun _ => hno)
        · exact g_fin1 P E W h12 hq he hk hf (fun _ => hno)
    · rcases tk_fn01 (V (40 * r + i)) with hf | hf
      · exact g_t1n P E W h12 hq he hk hf (fun z => (h4 z).elim)
      · exact g_fin1 P E W h12 hq he hk hf (fun z => (h4 z).elim)
  · rcases tk_fn01 (V (40 * r + i)) with hf | hf
    · exact g_t2n P E W h12 hq he hk c1 c2 hf
    · exact g_fin2 P E W h12 hq he hk c1 c2 hf
  · exact g_t3 P E W h12 hq he hk
/-- IF -/
theorem s_if (P : pg_T K V Z U B LN) (E : pg_E K V KY VY LN) (W : st_wf K V U LN ((r, i, p, y, 0, a, e0, n0, t0) :: st)) (h12 : st_w K ((r, i, p, y, 0, a, e0, n0, t0) :: st) ≤ 12) (hq : q ≤ 300) (he : en_ok K V U r i e n t) (hp0 : p = 0 → e = 0) (hk : K (40 * r + i) = 12) (hf : (p = 0 ∧ y = 0) ∨ (p = 1 ∧ y = 1) ∨ (p = 2 ∧ (y = 2 ∨ y = 3))) : GD f_expectedCount f_draftLength f_latestPlace f_place f_result f_thrown K V Z HB EX KY U LY VY B OP LN ((r, i, p, y, 0, a, e0, n0, t0) :: st) e n v t s q va ou := by
  have ho : ∀ hp : p = 1 ∨ p = 2, K (40 * r + i) = 10 ∨ K (40 * r + i) = 11 ∨ K (40 * r + i) = 14 ∨ K (40 * r + i) = 16 ∨ K (40 * r + i) = 21 ∨ (K (40 * r + i) = 12 ∧ (p = 1 ∨ p = 2)) := fun hp => Or.inr (Or.inr (Or.inr (Or.inr (Or.inr ⟨hk, hp⟩))))
  by_cases h0 : e = 0
  · subst h0
    rcases hf with ⟨rfl, rfl⟩ | ⟨rfl, rfl⟩ | ⟨rfl, hy⟩
    · exact g_if0 P E W h12 hq hk
    · exact g_if1 P E W h12 hq hk
    · exact g_end P E W h12 hq (Or.inr ⟨hk, hy⟩)
  · rcases hf with ⟨rfl, rfl⟩ | ⟨rfl, rfl⟩ | ⟨rfl, hy⟩
    · exact (h0 (hp0 rfl)).elim
    · exact g_out P E W h12 hq he h0 (ho (Or.inl rfl)) (Or.inl rfl)
    · exact g_out P E W h12 hq he h0 (ho (Or.inr rfl)) (Or.inr hy)
/-- WHILE -/
theorem s_while (P : pg_T K V Z U B LN) (E : pg_E K V KY VY LN) (W : st_wf K V U LN ((r, i, p, p, 0, a, e0, n0, t0) :: st)) (h12 : st_w K ((r, i, p, p, 0, a, e0, n0, t0) :: st) ≤ 12) (hq : q ≤ 300) (he : en_ok K V U r i e n t) (hp0 : p = 0 → e = 0) (hcs : 1 ≤ p → fr_cs (K (40 * r + i)) p = 0 → e = 0 ∨ e = 4) (hk : K (40 * r + i) = 13) (hp : p ≤ 2) : GD f_expectedCount f_draftLength f_latestPlace f_place f_result f_thrown K V Z HB EX KY U LY VY B OP LN ((r, i, p, p, 0, a, e0, n0, t0) :: st) e n v t s q va ou ∨ OV f_expectedCount f_draftLength f_latestPlace f_place f_result f_thrown K V Z HB EX KY U LY VY B OP LN ((r, i, p, p, 0, a, e0, n0, t0) :: st) e n v t s q va ou := by
  have go : (p = 0 ∧ e = 0 ∨ p = 2 ∧ (e = 0 ∨ (e = 2 ∧ n = V (40 * r + i) ∧ t = i))) → GD f_expectedCount f_draftLength f_latestPlace f_place f_result f_thrown K V Z HB EX KY U LY VY B OP LN ((r, i, p, p, 0, a, e0, n0, t0) :: st) e n v t s q va ou ∨ OV f_expectedCount f_draftLength f_latestPlace f_place f_result f_thrown K V Z HB EX KY U LY VY B OP LN ((r, i, p, p, 0, a, e0, n0, t0) :: st) e n v t s q va ou := by
    intro hh
    by_cases h3 : q < 300
    · exact Or.inl (g_wstep P E W h12 hq hk rfl hh h3)
    · have : q = 300 := by omega
      subst this
      exact Or.inr (o_while P E W h12 hk hh)
  have ti : (e = 1 ∨ e = 2) → n = V (40 * r + i) → t = i := by
    intro z hn
    rcases tr_NL_u (he.2.1 z) with ⟨_, h⟩ | ⟨h, _⟩
    · exact h
    · exact (h ⟨hk, hn.symm⟩).elim
  have : p = 0 ∨ p = 1 ∨ p = 2 := by omega
  rcases this with rfl | rfl | rfl
  · exact go (Or.inl ⟨rfl, hp0 rfl⟩)
  · rcases hcs (by omega) (by rw [hk]; rfl) with rfl | rfl
    · by_cases hv : v = 0
      · exact Or.inl (g_w1z P E W h12 hq hk hv)
      · exact Or.inl (g_while1 P E W h12 hq hk hv)
    · exact Or.inl (g_wout P E W h12 hq he (by decide) hk (Or.inl rfl) (fun z => absurd z (by decide)))
  · by_cases h0 : e = 0
    · exact go (Or.inr ⟨rfl, Or.inl h0⟩)
    · by_cases hn : n = V (40 * r + i)
      · by_cases h2 : e = 2
        · exact go (Or.inr ⟨rfl, Or.inr ⟨h2, hn, ti (Or.inr h2) hn⟩⟩)
        · by_cases h1 : e = 1
          · have tt := ti (Or.inl h1) hn
            subst h1
            exact Or.inl (g_w2b P E W h12 hq hk hn tt)
          · exact Or.inl (g_wout P E W h12 hq he h0 hk (Or.inr rfl) (fun z => (z.elim h1 h2).elim))
      · exact Or.inl (g_wout P E W h12 hq he h0 hk (Or.inr rfl) (fun _ => hn))
/-- CALL -/
theorem s_call (P : pg_T K V Z U B LN) (E : pg_E K V KY VY LN) (H : pg_H HB LY LN) (W : st_wf K V U LN ((r, i, p, p, 0, a, e0, n0, t0) :: st)) (h12 : st_w K ((r, i, p, p, 0, a, e0, n0, t0) :: st) ≤ 12) (hq : q ≤ 300) (he : en_ok K V U r i e n t) (hp0 : p = 0 → e = 0) (hcs : 1 ≤ p → fr_cs (K (40 * r + i)) p = 0 → e = 0 ∨ e = 4) (h8 : K (40 * r + i) = 8 → p = 2 → e = 0 ∨ e = 3 ∨ e = 4) (hk : K (40 * r + i) = 8) (hp : p ≤ 2) : GD f_expectedCount f_draftLength f_latestPlace f_place f_result f_thrown K V Z HB EX KY U LY VY B OP LN ((r, i, p, p, 0, a, e0, n0, t0) :: st) e n v t s q va ou ∨ OV f_expectedCount f_draftLength f_latestPlace f_place f_result f_thrown K V Z HB EX KY U LY VY B OP LN ((r, i, p, p, 0, a, e0, n0, t0) :: st) e n v t s q va ou := by
  have : p = 0 ∨ p = 1 ∨ p = 2 := by omega
  rcases this with rfl | rfl | rfl
  · have := hp0 rfl
    subst this
    exact Or.inl (g_call0 P E W h12 hq hk)
  · rcases hcs (by omega) (by rw [hk]; rfl) with rfl | rfl
    · obtain ⟨b1, b2, b3, b4, b5, b6, b7, hr, hi⟩ := wf_bd P W h12
      obtain ⟨f, hf, ef⟩ := tk_fou (pg_tok P hr hi).1 (Or.inl hk)
      rcases H f hf with ⟨x1, x2⟩ | ⟨x1, x2, x3⟩
      · exact Or.inl (g_cnone P E W h12 hq hk hf ef x1 x2)
      · by_cases h3 : q < 300
        · by_cases hw : st_w K st < 12
          · exact Or.inl (g_begin P E W h12 hq hk hf ef x1 x2 x3 h3 hw)
          · exact Or.inl (g_cdeep P E W h12 hq hk hf ef x2 x3 h3 (by omega))
        · have : q = 300 := by omega
          subst this
          exact Or.inr (o_call P E W h12 hk hf ef x2 x3)
    · exact Or.inl (g_x4 P E W h12 hq (by rw [hk]; decide) (by omega) (fun z => by omega) (he.2.2 rfl))
  · exact Or.inl (g_ret P E W h12 hq hk (h8 hk rfl) he.2.2)
/-- the plain tokens -/
theorem s_plain (P : pg_T K V Z U B LN) (E : pg_E K V KY VY LN) (W : st_wf K V U LN ((r, i, p, p, 0, a, e0, n0, t0) :: st)) (h12 : st_w K ((r, i, p, p, 0, a, e0, n0, t0) :: st) ≤ 12) (hq : q ≤ 300) (hss : s < 2000000) (he : en_ok K V U r i e n t) (hp0 : p = 0 → e = 0) (hcs : 1 ≤ p → fr_cs (K (40 * r + i)) p = 0 → e = 0 ∨ e = 4) (hpl : tk_plain (K (40 * r + i))) (h18 : K (40 * r + i) ≠ 18) (hp : p ≤ tk_np (K (40 * r + i)) (V (40 * r + i))) (hp2 : p ≤ 2) : GD f_expectedCount f_draftLength f_latestPlace f_place f_result f_thrown K V Z HB EX KY U LY VY B OP LN ((r, i, p, p, 0, a, e0, n0, t0) :: st) e n v t s q va ou := by
  obtain ⟨b1, b2, b3, b4, b5, b6, b7, hr, hi⟩ := wf_bd P W h12
  have hok := (pg_tok P hr hi).1
  obtain ⟨n8, n12, n13, n17⟩ := hpl
  have hpc : p = 0 ∨ p = 1 ∨ p = 2 := by omega
  have xx : tk_so (K (40 * r + i)) = 0 → fr_cs (K (40 * r + i)) p = 0 → (e = 0 → p = tk_np (K (40 * r + i)) (V (40 * r + i)) → GD f_expectedCount f_draftLength f_latestPlace f_place f_result f_thrown K V Z HB EX KY U LY VY B OP LN ((r, i, p, p, 0, a, e0, n0, t0) :: st) e n v t s q va ou) → GD f_expectedCount f_draftLength f_latestPlace f_place f_result f_thrown K V Z HB EX KY U LY VY B OP LN ((r, i, p, p, 0, a, e0, n0, t0) :: st) e n v t s q va ou := by
    intro hs hc hfin
    by_cases h0 : e = 0
    · by_cases hlt : p < tk_np (K (40 * r + i)) (V (40 * r + i))
      · subst h0
        exact g_xpart P E W h12 hq hs n8 hlt
      · exact hfin h0 (by omega)
    · have h1 : 1 ≤ p := by
        rcases Nat.eq_zero_or_pos p with z | z
        · exact (h0 (hp0 z)).elim
        · exact z
      have h4 := (hcs h1 hc).resolve_left h0
      subst h4
      exact g_x4 P E W h12 hq hs h1 (fun z => n8 z.1) (he.2.2 rfl)
  have yy : (K (40 * r + i) = 10 ∨ K (40 * r + i) = 11 ∨ K (40 * r + i) = 14 ∨ K (40 * r + i) = 16 ∨ K (40 * r + i) = 21) → ((p = 1 ∨ p = 2) → e = 0 → GD f_expectedCount f_draftLength f_latestPlace f_place f_result f_thrown K V Z HB EX KY U LY VY B OP LN ((r, i, p, p, 0, a, e0, n0, t0) :: st) e n v t s q va ou) → GD f_expectedCount f_draftLength f_latestPlace f_place f_result f_thrown K V Z HB EX KY U LY VY B OP LN ((r, i, p, p, 0, a, e0, n0, t0) :: st) e n v t s q va ou := by
    intro hk hgo
    by_cases h0 : e = 0
    · rcases hpc with rfl | h | h
      · subst h0
        exact g_stmt0 P E W h12 hq hk
      · exact hgo (Or.inl h) h0
      · exact hgo (Or.inr h) h0
    · have h1 : p = 1 ∨ p = 2 := by
        rcases hpc with h | h | h
        · exact (h0 (hp0 h)).elim
        · exact Or.inl h
        · exact Or.inr h
      refine g_out P E W h12 hq he h0 ?_ (h1.elim Or.inl (fun z => Or.inr (Or.inl z)))
      rcases hk with h | h | h | h | h
      · exact Or.inl h
      · exact Or.inr (Or.inl h)
      · exact Or.inr (Or.inr (Or.inl h))
      · exact Or.inr (Or.inr (Or.inr (Or.inl h)))
      · exact Or.inr (Or.inr (Or.inr (Or.inr (Or.inl h))))
  have two : (K (40 * r + i) = 2 ∨ K (40 * r + i) = 3 ∨ K (40 * r + i) = 4 ∨ K (40 * r + i) = 5 ∨ K (40 * r + i) = 6) → GD f_expectedCount f_draftLength f_latestPlace f_place f_result f_thrown K V Z HB EX KY U LY VY B OP LN ((r, i, p, p, 0, a, e0, n0, t0) :: st) e n v t s q va ou := by
    intro hk
    refine xx (by rcases hk with h | h | h | h | h <;> rw [h] <;> decide) (by rcases hk with h | h | h | h | h <;> rw [h] <;> rfl) (fun h0 hpn => ?_)
    have : tk_np (K (40 * r + i)) (V (40 * r + i)) = 2 := by rcases hk with h | h | h | h | h <;> rw [h] <;> rfl
    rw [this] at hpn
    subst h0 hpn
    by_cases hz : K (40 * r + i) = 5 ∧ v = 0
    · obtain ⟨h5, rfl⟩ := hz
      exact g_div0 P E W h12 hq h5
    · exact g_two P E W h12 hq hk (fun h5 hv => hz ⟨h5, hv⟩)
  have zero : tk_np (K (40 * r + i)) (V (40 * r + i)) = 0 → p = 0 ∧ e = 0 := fun hn => by
    have : p = 0 := by omega
    exact ⟨this, hp0 this⟩
  rcases tk_kinds hok with h | h | h | h | h | h | h | h | h | h | h | h | h | h | h | h | h | h | h | h | h
  · obtain ⟨rfl, rfl⟩ := zero (by rw [h]; rfl)
    exact g_num P E W h12 hq h
  · obtain ⟨rfl, rfl⟩ := zero (by rw [h]; rfl)
    exact g_var P E W h12 hq h
  · exact two (Or.inl h)
  · exact two (Or.inr (Or.inl h))
  · exact two (Or.inr (Or.inr (Or.inl h)))
  · exact two (Or.inr (Or.inr (Or.inr (Or.inl h))))
  · exact two (Or.inr (Or.inr (Or.inr (Or.inr h))))
  · refine xx (by rw [h]; decide) (by rw [h]; rfl) (fun h0 hpn => ?_)
    have : tk_np (K (40 * r + i)) (V (40 * r + i)) = 1 := by rw [h]; rfl
    rw [this] at hpn
    subst h0 hpn
    exact g_not P E W h12 hq h
  · exact (n8 h).elim
  · refine yy (Or.inl h) (fun hp1 h0 => ?_)
    have hn : tk_np (K (40 * r + i)) (V (40 * r + i)) = 1 := by rw [h]; rfl
    have : p = 1 := by omega
    subst this h0
    exact g_set P E W h12 hq h
  · refine yy (Or.inr (Or.inl h)) (fun hp1 h0 => ?_)
    have hn : tk_np (K (40 * r + i)) (V (40 * r + i)) = 1 := by rw [h]; rfl
    have : p = 1 := by omega
    subst this h0
    exact g_say P E W h12 hq hss h
  · exact (n12 h).elim
  · exact (n13 h).elim
  · refine yy (Or.inr (Or.inr (Or.inl h))) (fun hp1 h0 => ?_)
    subst h0
    rcases hp1 with rfl | rfl
    · exact g_seq1 P E W h12 hq h
    · exact g_end P E W h12 hq (Or.inl ⟨h, rfl⟩)
  · obtain ⟨rfl, rfl⟩ := zero (by rw [h]; rfl)
    exact g_skip P E W h12 hq h
  · refine yy (Or.inr (Or.inr (Or.inr (Or.inl h)))) (fun hp1 h0 => ?_)
    have hn : tk_np (K (40 * r + i)) (V (40 * r + i)) = 1 := by rw [h]; rfl
    have : p = 1 := by omega
    subst this h0
    exact g_throw P E W h12 hq h
  · exact (n17 h).elim
  · exact (h18 h).elim
  · obtain ⟨rfl, rfl⟩ := zero (by rw [h]; rfl)
    exact g_jump P E W h12 hq (Or.inl h)
  · obtain ⟨rfl, rfl⟩ := zero (by rw [h]; rfl)
    exact g_jump P E W h12 hq (Or.inr h)
  · refine yy (Or.inr (Or.inr (Or.inr (Or.inr h)))) (fun hp1 h0 => ?_)
    have hn : tk_np (K (40 * r + i)) (V (40 * r + i)) = 1 := by rw [h]; rfl
    have : p = 1 := by omega
    subst this h0
    exact g_return P E W h12 hq h
/-- every turn -/
theorem s_all (P : pg_T K V Z U B LN) (E : pg_E K V KY VY LN) (H : pg_H HB LY LN) (A : wf_A K V U LN ((r, i, p, y, c, a, e0, n0, t0) :: st) e n t q) (hss : s < 2000000) : GD f_expectedCount f_draftLength f_latestPlace f_place f_result f_thrown K V Z HB EX KY U LY VY B OP LN ((r, i, p, y, c, a, e0, n0, t0) :: st) e n v t s q va ou ∨ OV f_expectedCount f_draftLength f_latestPlace f_place f_result f_thrown K V Z HB EX KY U LY VY B OP LN ((r, i, p, y, c, a, e0, n0, t0) :: st) e n v t s q va ou := by
  obtain ⟨W, ⟨he, hp0, hcs, h8⟩, h12, hq⟩ := A
  have W' := W
  obtain ⟨_, _, _, h18, hf, _⟩ := W'
  rcases hf with ⟨hk, hf⟩ | ⟨hk, rfl, hf⟩ | ⟨hk | hk, rfl, hp, rfl⟩ | ⟨n17, n12, n13, n8, rfl, rfl, hp, hp2⟩
  · exact Or.inl (s_try P E W h12 hq he hp0 hk hf)
  · exact Or.inl (s_if P E W h12 hq he hp0 hk hf)
  · exact s_while P E W h12 hq he hp0 hcs hk hp
  · exact s_call P E H W h12 hq he hp0 hcs h8 hk hp
  · exact Or.inl (s_plain P E W h12 hq hss he hp0 hcs ⟨n8, n12, n13, n17⟩ h18 hp hp2)
/-- the whole run: one outcome on both sides -/
theorem s_run (P : pg_T K V Z U B LN) (E : pg_E K V KY VY LN) (H : pg_H HB LY LN) : ∀ (N : Nat) (st : List Fr) (e n v : Int32) (t s q : Nat) (va ou : Nat → Int32) (turn : Nat), wf_A K V U LN st e n t q → ph_S K V Z st + 201 * (300 - q) ≤ N → turn + N ≤ 1000000 → s ≤ turn → ∃ (R res kd : Int32) (s' q' : Nat) (va' ou' : Nat → Int32), s' ≤ 2000000 ∧ (∀ post : Int32 → SX → Prop, XF f_expectedCount f_draftLength f_latestPlace K V Z HB EX post R res kd s' q' va' ou' → ∃ m, XA f_expectedCount f_draftLength f_latestPlace K V Z HB EX post m turn st e n v s q va ou) ∧ (∀ post : Int32 → SY → Prop, YF f_place f_result f_thrown K Z KY U LY VY B OP post R res kd s' q' va' ou' → ∃ m, YA f_place f_result f_thrown K Z KY U LY VY B OP post m st e n v t s q va ou) := by
  intro N
  induction N with
  | zero =>
    intro st e n v t s q va ou turn A hN ht hst
    cases st with
    | nil =>
      rcases A.2.1 with rfl | rfl | rfl
      · exact ⟨0, 0, -1, s, q, va, ou, by omega, fun post h => ⟨1, xa_nil0 h⟩, fun post h => ⟨1, ya_nil0 h⟩⟩
      · exact ⟨0, v, -1, s, q, va, ou, by omega, fun post h => ⟨1, xa_nil3 h⟩, fun post h => ⟨1, ya_nil3 h⟩⟩
      · exact ⟨3, v, n, s, q, va, ou, by omega, fun post h => ⟨1, xa_nil4 h⟩, fun post h => ⟨1, ya_nil4 h⟩⟩
    | cons f st =>
      obtain ⟨r, i, p, y, c, a, e0, n0, t0⟩ := f
      have := ph_F_pos (K := K) (V := V) (Z := Z) (r := r) (i := i) (fr_ok_le A.1.2.2.2.2.1)
      have hh : ph_S K V Z st + ph_F K V Z r i p + 201 * (300 - q) ≤ 0 := hN
      omega
  | succ N ih =>
    intro st e n v t s q va ou turn A hN ht hst
    cases st with
    | nil =>
      rcases A.2.1 with rfl | rfl | rfl
      · exact ⟨0, 0, -1, s, q, va, ou, by omega, fun post h => ⟨1, xa_nil0 h⟩, fun post h => ⟨1, ya_nil0 h⟩⟩
      · exact ⟨0, v, -1, s, q, va, ou, by omega, fun post h => ⟨1, xa_nil3 h⟩, fun post h => ⟨1, ya_nil3 h⟩⟩
      · exact ⟨3, v, n, s, q, va, ou, by omega, fun post h => ⟨1, xa_nil4 h⟩, fun post h => ⟨1, ya_nil4 h⟩⟩
    | cons f st =>
      obtain ⟨r, i, p, y, c, a, e0, n0, t0⟩ := f
      rcases s_all (f_expectedCount := f_expectedCount) (f_draftLength := f_draftLength) (f_latestPlace := f_latestPlace) (f_place := f_place) (f_result := f_result) (f_thrown := f_thrown) (EX := EX) (OP := OP) (v := v) (va := va) (ou := ou) P E H A (show s < 2000000 from by omega) with G | O
      · obtain ⟨st', e', n', v', t', s', q', va', ou', A', hm, hs, hX, j, hY⟩ := G
        obtain ⟨R, res, kd, s2, q2, va2, ou2, h2, kX, kY⟩ := ih st' e' n' v' t' s' q' va' ou' (turn + 1) A' (by omega) (by omega) (by omega)
        refine ⟨R, res, kd, s2, q2, va2, ou2, h2, fun post h => ?_, fun post h => ?_⟩
        · obtain ⟨m, hm⟩ := kX post h
          exact ⟨m + 1, hX post m turn (by omega) hm⟩
        · obtain ⟨m, hm⟩ := kY post h
          exact ⟨m + j, hY post m hm⟩
      · obtain ⟨_, hX, hY⟩ := O
        exact ⟨4, 0, -1, s, q, va, ou, by omega, fun post h => ⟨2, hX post turn (by omega) h⟩, fun post h => ⟨2, hY post h⟩⟩
end
end
section
theorem r_pgT {K V Z HB KY VY U B LY : Nat → Int32} {LN : Nat → Nat} (h : pg_ok K V Z HB KY VY U B LY LN) : pg_T K V Z U B LN := by
  intro r hr h1
  rcases h r hr with ⟨a, _⟩ | ⟨_, _, _, d⟩
  · omega
  · exact d.1
theorem r_pgE {K V Z HB KY VY U B LY : Nat → Int32} {LN : Nat → Nat} (h : pg_ok K V Z HB KY VY U B LY LN) : pg_E K V KY VY LN := by
  intro r hr i hi
  rcases h r hr with ⟨a, _⟩ | ⟨_, _, _, d⟩
  · omega
  · exact d.2 i hi
theorem r_pgH {K V Z HB KY VY U B LY : Nat → Int32} {LN : Nat → Nat} (h : pg_ok K V Z HB KY VY U B LY LN) : pg_H HB LY LN := by
  intro r hr
  rcases h r hr with ⟨_, a, b⟩ | ⟨a, b, c, d⟩
  · exact Or.inl ⟨a, b⟩
  · refine Or.inr ⟨a, b, ?_⟩
    rw [c]
    exact nI_ne0 a (by have := d.1.2.1; omega)
theorem qx_clear {f_expectedCount f_draftLength f_latestPlace f_entryCount f_working f_ending f_endNote f_endValue f_sayCount f_stepCount f_tooLong f_latestResult f_latestKind : Int32} {a_tokenKind a_tokenValue a_tokenSize a_hasBody a_expected a_entryToken a_entryPhase a_keptEnding a_keptNote a_keptValue a_variables a_output : Nat → Int32} {post : SX → Prop} (h : post (f_expectedCount, f_draftLength, f_latestPlace, 0, 0, 0, 0, 0, 0, 0, 0, 0, -1, a_tokenKind, a_tokenValue, a_tokenSize, a_hasBody, a_expected, a_entryToken, a_entryPhase, a_keptEnding, a_keptNote, a_keptValue, a_variables, a_output)) : wpX_clearRun post (f_expectedCount, f_draftLength, f_latestPlace, f_entryCount, f_working, f_ending, f_endNote, f_endValue, f_sayCount, f_stepCount, f_tooLong, f_latestResult, f_latestKind, a_tokenKind, a_tokenValue, a_tokenSize, a_hasBody, a_expected, a_entryToken, a_entryPhase, a_keptEnding, a_keptNote, a_keptValue, a_variables, a_output) := h
theorem i_vc_run {k : Nat} {u : SX} {v : SY} (I : i_Rel k u v) (hk : k + 3 ≤ 1536) (v1 : Int32) (v2 : Int32) : wpX_run (fun r u' => wpY_run (fun r' v' => r' = r ∧ i_Rel (k + 3) u' v') v v1 v2) u v1 v2 := by
  obtain ⟨f_expectedCount, f_draftLength, f_latestPlace, f_entryCount, f_working, f_ending, f_endNote, f_endValue, f_sayCount, f_stepCount, f_tooLong, f_latestResult, f_latestKind, a_tokenKind, a_tokenValue, a_tokenSize, a_hasBody, a_expected, a_entryToken, a_entryPhase, a_keptEnding, a_keptNote, a_keptValue, a_variables, a_output⟩ := u
  obtain ⟨f_place, f_top, f_held, f_depth, f_ended, f_endTarget, f_endKind, f_endWorth, f_steps, f_says, f_result, f_thrown, f_over, a_kind, a_up, a_length, a_value, a_below, a_open, a_token, a_height, a_target, a_phase, a_how, a_kinds, a_worth, a_values, b_variables, a_begun, b_output⟩ := v
  have I' := I
  obtain ⟨d, s, LN, h1, h2, hdr, hpg, h5, h6, h7, h8, h9, h10, h11, h12, h13⟩ := I
  have no : (v1 < 0 ∨ (¬ v1 < 0 ∧ nI 4 ≤ v1)) → wpX_run (fun r u' => wpY_run (fun r' v' => r' = r ∧ i_Rel (k + 3) u' v') (f_place, f_top, f_held, f_depth, f_ended, f_endTarget, f_endKind, f_endWorth, f_steps, f_says, f_result, f_thrown, f_over, a_kind, a_up, a_length, a_value, a_below, a_open, a_token, a_height, a_target, a_phase, a_how, a_kinds, a_worth, a_values, b_variables, a_begun, b_output) v1 v2) (f_expectedCount, f_draftLength, f_latestPlace, f_entryCount, f_working, f_ending, f_endNote, f_endValue, f_sayCount, f_stepCount, f_tooLong, f_latestResult, f_latestKind, a_tokenKind, a_tokenValue, a_tokenSize, a_hasBody, a_expected, a_entryToken, a_entryPhase, a_keptEnding, a_keptNote, a_keptValue, a_variables, a_output) v1 v2 := by
    intro hv
    have hY : wpY_run (fun r' v' => r' = -1 ∧ i_Rel (k + 3) (f_expectedCount, f_draftLength, f_latestPlace, f_entryCount, f_working, f_ending, f_endNote, f_endValue, f_sayCount, f_stepCount, f_tooLong, f_latestResult, f_latestKind, a_tokenKind, a_tokenValue, a_tokenSize, a_hasBody, a_expected, a_entryToken, a_entryPhase, a_keptEnding, a_keptNote, a_keptValue, a_variables, a_output) v') (f_place, f_top, f_held, f_depth, f_ended, f_endTarget, f_endKind, f_endWorth, f_steps, f_says, f_result, f_thrown, f_over, a_kind, a_up, a_length, a_value, a_below, a_open, a_token, a_height, a_target, a_phase, a_how, a_kinds, a_worth, a_values, b_variables, a_begun, b_output) v1 v2 := by
      unfold wpY_run
      exact qy_outN (n := 4) (by decide) hv (br_f (by decide) ⟨rfl, I'⟩)
    unfold wpX_run
    exact qx_isN hv (br_t rfl hY)
  rcases qb_fun v1 (n := 4) (by decide) with hv | hv | ⟨f, hf, rfl⟩
  · exact no (Or.inl hv)
  · exact no (Or.inr hv)
  subst h12 h13
  have P := r_pgT hpg
  have E := r_pgE hpg
  have H := r_pgH hpg
  rcases H f hf with ⟨x1, x2⟩ | ⟨x1, x2, x3⟩
  · -- there is no body
    have hY : ∀ u' : SX, (∀ v' : SY, (∃ (a2 a3 a4 a5 a6 a7 a8 a9 : Int32), v' = (f_place, a2, a3, a4, a5, a6, a7, a8, 0, 0, nI f, 1, a9, a_kind, a_up, a_length, a_value, a_below, a_open, a_token, a_height, a_target, a_phase, a_how, a_kinds, a_worth, a_values, b_variables, a_begun, b_output)) → i_Rel (k + 3) u' v') → wpY_run (fun r' v' => r' = 3 ∧ i_Rel (k + 3) u' v') (f_place, f_top, f_held, f_depth, f_ended, f_endTarget, f_endKind, f_endWorth, f_steps, f_says, f_result, f_thrown, f_over, a_kind, a_up, a_length, a_value, a_below, a_open, a_token, a_height, a_target, a_phase, a_how, a_kinds, a_worth, a_values, b_variables, a_begun, b_output) (nI f) v2 := by
      intro u' hu
      unfold wpY_run
      refine qy_outF (n := 4) hf (by decide) (br_t rfl ?_)
      refine yb_none hf x2 ⟨1, ?_⟩
      exact br_t (by decide) (br_t rfl (br_t rfl (br_f (by decide) (br_t rfl (br_f (by decide) (br_t rfl (br_f (by decide) ⟨rfl, hu _ ⟨_, _, _, _, _, _, _, _, rfl⟩⟩)))))))
    unfold wpX_run
    refine qx_isF hf (br_f (by decide) ?_)
    refine qx_clear ?_
    dsimp only
    refine xb_none hf x1 (br_t rfl ⟨1, ?_⟩)
    refine br_f (by decide) (br_t (show (0 : Int32) ≤ 0 from by decide) (br_t rfl (br_t rfl (hY _ (fun v' hv' => ?_)))))
    obtain ⟨a2, a3, a4, a5, a6, a7, a8, a9, rfl⟩ := hv'
    exact ⟨d, 0, LN, h1, h2, hdr, hpg, h5, rfl, rfl, rfl, rfl, by omega, rfl, rfl, rfl⟩
  · -- it begins
    have T := P f hf x1
    have hs1 : tk_so (a_tokenKind (40 * f + 0)) = 1 := T.2.2.1
    have wf : st_wf a_tokenKind a_tokenValue a_up LN [(f, 0, 0, 0, 0, 0, 0, 0, 0)] := ⟨trivial, hf, x1, tk_so18 (by rw [hs1]; decide), fr_ok0 _ _, by show 0 ≤ _; omega, fun z => by omega, rfl, fun _ => hs1⟩
    have ww : st_w a_tokenKind [(f, 0, 0, 0, 0, 0, 0, 0, 0)] = 1 := st_w0
    have m0 := ph_F_le P hf (i := 0) (by omega) 0
    obtain ⟨R, res, kd, s2, q2, va2, ou2, k2, kX, kY⟩ := s_run (f_expectedCount := f_expectedCount) (f_draftLength := f_draftLength) (f_latestPlace := f_latestPlace) (f_place := f_place) (f_result := f_result) (f_thrown := f_thrown) (EX := a_expected) (OP := a_open) P E H 70000 [(f, 0, 0, 0, 0, 0, 0, 0, 0)] 0 0 0 0 0 1 (vset b_variables 0 v2) b_output 0 ⟨wf, st_top_0, by rw [ww]; omega, by omega⟩ (by show 0 + ph_F a_tokenKind a_tokenValue a_tokenSize f 0 0 + _ ≤ _; omega) (by omega) (by omega)
    unfold wpX_run
    refine qx_isF hf (br_f (by decide) ?_)
    refine qx_clear ?_
    dsimp only
    refine xb_go (q := 0) (w := 0) hf x2 (by omega) (by omega) ?_
    refine br_f (qb_ne_m1 (by omega)) (br_t (show (0 : Int32) < 480 from by decide) ⟨pk_in 0 480 (by omega), nm_r (e' := upd a_entryToken 0 (nI (40 * f))) rfl ⟨pk_in 0 480 (by omega), nm_r (e' := upd a_entryPhase 0 0) rfl (nm_r (e' := nI 1) rfl ?_)⟩⟩)
    have gX := kX (fun r u' => wpY_run (fun r' v' => r' = r ∧ i_Rel (k + 3) u' v') (f_place, f_top, f_held, f_depth, f_ended, f_endTarget, f_endKind, f_endWorth, f_steps, f_says, f_result, f_thrown, f_over, a_kind, a_up, a_length, a_value, a_below, a_open, a_token, a_height, a_target, a_phase, a_how, a_kinds, a_worth, a_values, b_variables, a_begun, b_output) (nI f) v2) (by
      intro g1 g2 g3 g4 g5 g6 ET EP KE KN KV
      have gY := kY (fun r' v' => r' = R ∧ i_Rel (k + 3) (f_expectedCount, f_draftLength, f_latestPlace, g1, g2, g3, g4, g5, nI s2, nI q2, g6, res, kd, a_tokenKind, a_tokenValue, a_tokenSize, a_hasBody, a_expected, ET, EP, KE, KN, KV, va2, ou2) v') (by
        intro j1 j2 j3 j4 j5 j6 j7 j8 TK HT PH TG HW KS WR VL BG
        exact ⟨rfl, d, s2, LN, h1, h2, hdr, hpg, h5, rfl, rfl, rfl, rfl, k2, rfl, rfl, rfl⟩)
      obtain ⟨m, gY⟩ := gY
      unfold wpY_run
      refine qy_outF (n := 4) hf (by decide) (br_t rfl ?_)
      refine yb_go (T := 0) (hh := 0) (q := 0) (w := 0) (by omega) (by omega) hf x3 (by omega) (by omega) ⟨m, ?_⟩
      have g := gY (nI 0) f_endTarget f_endKind f_endWorth (upd a_token 0 (nI (40 * f))) (upd a_height 0 (nI 0)) (upd a_phase 0 0) a_target a_how a_kinds a_worth a_values a_begun ⟨trivial, pk_us, pk_us, pk_us, fun z => (z rfl).elim, fun z => (fr_b0 _ z).elim, fun z => by omega, fun _ z => by omega⟩ ⟨by rw [st_h0, if_neg (fun z => by omega)]; rfl, fun _ z => by omega, fun z => absurd z (by decide), fun z => absurd z (by decide), fun z => absurd z (by decide)⟩
      rw [ww] at g
      exact g)
    obtain ⟨m, gX⟩ := gX
    have g := gX (upd a_entryToken 0 (nI (40 * f))) (upd a_entryPhase 0 0) a_keptEnding a_keptNote a_keptValue ⟨trivial, pk_us, pk_us, fun z => by omega, fun z => (fr_b0 _ z).elim⟩
    rw [ww] at g
    exact ⟨m, g⟩
end
