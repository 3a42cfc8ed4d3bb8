/-- a frame: row, token, X's phase, Y's phase, the catch that was chosen (0: none), the kept value, ending, note, target -/
abbrev Fr : Type := Nat × Nat × Nat × Nat × Nat × Int32 × Int32 × Int32 × Nat
def ro (K : Nat → Int32) (r : Nat) : Nat → Int32 := fun i => K (40 * r + i)
/-- how many values a frame holds while its part is at work -/
def fr_b (k : Int32) (p : Nat) : Nat := if (k = 2 ∨ k = 3 ∨ k = 4 ∨ k = 5 ∨ k = 6) ∧ p = 2 then 1 else 0
/-- the sort of the part that is at work, or has just ended -/
def fr_cs (k : Int32) (p : Nat) : Nat := if k = 8 then (if p = 2 then 1 else 0) else if k = 17 ∨ k = 14 then 1 else if k = 12 ∨ k = 13 then (if p ≤ 1 then 0 else 1) else 0
def fr_ok (k v : Int32) (p y c : Nat) : Prop :=
  (k = 17 ∧ ((p = 0 ∧ y = 0 ∧ c = 0) ∨ (p = 1 ∧ y = 1 ∧ c = 0) ∨ (p = 2 ∧ y = c + 1 ∧ 1 ≤ c ∧ c ≤ tk_cn v) ∨ (p = 3 ∧ y = 4 ∧ c = 0 ∧ tk_fn v = 1))) ∨
  (k = 12 ∧ c = 0 ∧ ((p = 0 ∧ y = 0) ∨ (p = 1 ∧ y = 1) ∨ (p = 2 ∧ (y = 2 ∨ y = 3)))) ∨
  ((k = 13 ∨ k = 8) ∧ c = 0 ∧ p ≤ 2 ∧ y = p) ∨
  (k ≠ 17 ∧ k ≠ 12 ∧ k ≠ 13 ∧ k ≠ 8 ∧ c = 0 ∧ y = p ∧ p ≤ tk_np k v ∧ p ≤ 2)
theorem fr_ok0 (k v : Int32) : fr_ok k v 0 0 0 := by
  by_cases h1 : k = 17
  · exact Or.inl ⟨h1, Or.inl ⟨rfl, rfl, rfl⟩⟩
  · by_cases h2 : k = 12
    · exact Or.inr (Or.inl ⟨h2, rfl, Or.inl ⟨rfl, rfl⟩⟩)
    · by_cases h3 : k = 13 ∨ k = 8
      · exact Or.inr (Or.inr (Or.inl ⟨h3, rfl, by omega, rfl⟩))
      · exact Or.inr (Or.inr (Or.inr ⟨h1, h2, fun z => h3 (Or.inl z), fun z => h3 (Or.inr z), rfl, rfl, by omega, by omega⟩))
theorem fr_ok_le {k v : Int32} {p y c : Nat} (h : fr_ok k v p y c) : p ≤ 3 := by
  rcases h with ⟨_, h | h | h | h⟩ | ⟨_, _, h | h | h⟩ | ⟨_, _, h, _⟩ | ⟨_, _, _, _, _, _, _, h⟩ <;> omega
/-- Y's entries, Y's values, the functions at work -/
def st_y : List Fr → Nat
  | [] => 0
  | (_, _, _, _, c, _, _, _, _) :: st => st_y st + (if c = 0 then 1 else 2)
def st_h (K : Nat → Int32) : List Fr → Nat
  | [] => 0
  | (r, i, p, _, _, _, _, _, _) :: st => st_h K st + fr_b (K (40 * r + i)) p
def st_w (K : Nat → Int32) : List Fr → Nat
  | [] => 1
  | (r, i, p, _, _, _, _, _, _) :: st => st_w K st + (if K (40 * r + i) = 8 ∧ p = 2 then 1 else 0)
/-- an ending that is to be passed on by token i of row r -/
def en_ok (K V U : Nat → Int32) (r i : Nat) (e n : Int32) (t : Nat) : Prop :=
  (e = 0 ∨ e = 1 ∨ e = 2 ∨ e = 3 ∨ e = 4) ∧ ((e = 1 ∨ e = 2) → tr_NL (ro K r) (ro V r) (ro U r) n i t) ∧ (e = 4 → ∃ m : Nat, m < 4 ∧ n = nI m)
/-- token i of row r as a part of the frame below it -/
def st_adj (K V U : Nat → Int32) : List Fr → Nat → Nat → Prop
  | [], _, i => i = 0
  | (r', i', p', _, c', _, _, _, _) :: _, r, i => 1 ≤ p' ∧ ((K (40 * r' + i') = 8 ∧ p' = 2 ∧ i = 0) ∨ (¬ (K (40 * r' + i') = 8 ∧ p' = 2) ∧ r = r' ∧ i' + (if c' = 0 then 1 else 2) ≤ i ∧ tk_so (K (40 * r + i)) = fr_cs (K (40 * r' + i')) p' ∧ ∀ lab t, ¬ tr_m (ro K r) (ro V r) lab i → tr_NL (ro K r) (ro V r) (ro U r) lab i t → tr_NL (ro K r) (ro V r) (ro U r) lab i' t))
def st_wf (K V U : Nat → Int32) (LN : Nat → Nat) : List Fr → Prop
  | [] => True
  | (r, i, p, y, c, _, e, n, t) :: st => st_wf K V U LN st ∧ r < 4 ∧ i < LN r ∧ K (40 * r + i) ≠ 18 ∧ fr_ok (K (40 * r + i)) (V (40 * r + i)) p y c ∧ st_y st ≤ 40 * (st_w K st - 1) + i ∧ (p = 3 → en_ok K V U r i e n t) ∧ st_adj K V U st r i ∧ (i = 0 → tk_so (K (40 * r + i)) = 1)
/-- the ending that the topmost frame has to deal with -/
def st_top (K V U : Nat → Int32) : List Fr → Int32 → Int32 → Nat → Prop
  | [], e, _, _ => e = 0 ∨ e = 3 ∨ e = 4
  | (r, i, p, _, _, _, _, _, _) :: _, e, n, t => en_ok K V U r i e n t ∧ (p = 0 → e = 0) ∧ (1 ≤ p → fr_cs (K (40 * r + i)) p = 0 → e = 0 ∨ e = 4) ∧ (K (40 * r + i) = 8 → p = 2 → e = 0 ∨ e = 3 ∨ e = 4)
theorem st_w_pos (K : Nat → Int32) : ∀ st, 1 ≤ st_w K st := by
  intro st
  induction st with
  | nil => exact Nat.le_refl _
  | cons f st ih => obtain ⟨r, i, p, y, c, a, e, n, t⟩ := f; show 1 ≤ st_w K st + _; omega
theorem st_len_y : ∀ st : List Fr, st.length ≤ st_y st := by
  intro st
  induction st with
  | nil => exact Nat.le_refl _
  | cons f st ih =>
    obtain ⟨r, i, p, y, c, a, e, n, t⟩ := f
    show st.length + 1 ≤ st_y st + _
    split <;> omega
theorem fr_b_le (k : Int32) (p : Nat) : fr_b k p ≤ 1 := by unfold fr_b; split <;> omega
theorem st_h_y (K : Nat → Int32) : ∀ st : List Fr, st_h K st ≤ st_y st := by
  intro st
  induction st with
  | nil => exact Nat.le_refl _
  | cons f st ih =>
    obtain ⟨r, i, p, y, c, a, e, n, t⟩ := f
    have := fr_b_le (K (40 * r + i)) p
    show st_h K st + _ ≤ st_y st + _
    split <;> omega
/-- all rows with a body are good -/
def pg_T (K V Z U B : Nat → Int32) (LN : Nat → Nat) : Prop := ∀ r, r < 4 → 1 ≤ LN r → tr_T (LN r) (ro K r) (ro V r) (ro Z r) (ro U r) (fun j => B (160 * r + j))
section
variable {K V Z U B : Nat → Int32} {LN : Nat → Nat}
/-- what may be passed on when token i of row r ends -/
def en_pop (K V U : Nat → Int32) (r i : Nat) (e n : Int32) (t : Nat) : Prop :=
  (e = 0 ∨ e = 1 ∨ e = 2 ∨ e = 3 ∨ e = 4) ∧ (tk_so (K (40 * r + i)) = 0 → e = 0 ∨ e = 4) ∧ ((e = 1 ∨ e = 2) → tr_NL (ro K r) (ro V r) (ro U r) n i t ∧ ¬ tr_m (ro K r) (ro V r) n i) ∧ (e = 4 → ∃ m : Nat, m < 4 ∧ n = nI m)
theorem en_root {r : Nat} {e n : Int32} {t : Nat} (h : en_pop K V U r 0 e n t) : e = 0 ∨ e = 3 ∨ e = 4 := by
  have no : ¬ (e = 1 ∨ e = 2) := by
    intro z
    obtain ⟨a, b⟩ := h.2.2.1 z
    rcases tr_NL_u a with ⟨c, _⟩ | ⟨_, p, _, hp, _⟩
    · exact b c
    · omega
  rcases h.1 with h | h | h | h | h
  · exact Or.inl h
  · exact (no (Or.inl h)).elim
  · exact (no (Or.inr h)).elim
  · exact Or.inr (Or.inl h)
  · exact Or.inr (Or.inr h)
theorem st_pop {r i p y c : Nat} {a e0 n0 : Int32} {t0 : Nat} {st : List Fr} (W : st_wf K V U LN ((r, i, p, y, c, a, e0, n0, t0) :: st)) {e n : Int32} {t : Nat} (h : en_pop K V U r i e n t) : st_top K V U st e n t := by
  obtain ⟨_, _, _, _, _, _, _, hadj, hroot⟩ := W
  cases st with
  | nil =>
    have hi : i = 0 := hadj
    subst hi
    exact en_root h
  | cons f st =>
    obtain ⟨r', i', p', y', c', a', e', n', t'⟩ := f
    obtain ⟨h1, ⟨a1, a2, a3⟩ | ⟨b1, b2, b3, b4, b5⟩⟩ := hadj
    · subst a3
      have hr := en_root h
      refine ⟨⟨h.1, fun z => ?_, h.2.2.2⟩, fun z => by omega, fun _ z => ?_, fun _ _ => hr⟩
      · rcases hr with q | q | q <;> rw [q] at z <;> exact absurd z (by decide)
      · rw [a1, a2] at z
        exact absurd z (by decide)
    · subst b2
      refine ⟨⟨h.1, fun z => b5 n t (h.2.2.1 z).2 (h.2.2.1 z).1, h.2.2.2⟩, fun z => by omega, fun _ z => h.2.1 (b4.trans z), fun z1 z2 => (b1 ⟨z1, z2⟩).elim⟩
theorem tk_so18 {k : Int32} (h : tk_so k ≠ 2) : k ≠ 18 := fun e => h (by rw [e]; decide)
/-- a part begins: token j over the frame of token i -/
theorem wf_push {r i p y c : Nat} {a e n : Int32} {t : Nat} {st : List Fr} (W : st_wf K V U LN ((r, i, p, y, c, a, e, n, t) :: st)) {j p' y' c' : Nat} {a' e' n' : Int32} {t' : Nat} (hc : ¬ (K (40 * r + i) = 8 ∧ p' = 2)) (h1 : 1 ≤ p') (ok : fr_ok (K (40 * r + i)) (V (40 * r + i)) p' y' c') (hj : j < LN r) (hk : tk_so (K (40 * r + j)) ≠ 2) (hij : i + (if c' = 0 then 1 else 2) ≤ j) (hso : tk_so (K (40 * r + j)) = fr_cs (K (40 * r + i)) p') (hNL : ∀ lab t, ¬ tr_m (ro K r) (ro V r) lab j → tr_NL (ro K r) (ro V r) (ro U r) lab j t → tr_NL (ro K r) (ro V r) (ro U r) lab i t) (hen : p' = 3 → en_ok K V U r i e' n' t') : st_wf K V U LN ((r, j, 0, 0, 0, 0, 0, 0, 0) :: (r, i, p', y', c', a', e', n', t') :: st) ∧ st_w K ((r, j, 0, 0, 0, 0, 0, 0, 0) :: (r, i, p', y', c', a', e', n', t') :: st) = st_w K st := by
  obtain ⟨w1, w2, w3, w4, w5, w6, w7, w8, w9⟩ := W
  have ew : st_w K ((r, i, p', y', c', a', e', n', t') :: st) = st_w K st := by show _ + _ = _; rw [if_neg hc]; rfl
  refine ⟨⟨⟨w1, w2, w3, w4, ok, w6, hen, w8, w9⟩, w2, hj, tk_so18 hk, fr_ok0 _ _, ?_, fun z => by omega, ⟨h1, Or.inr ⟨hc, rfl, hij, hso, hNL⟩⟩, fun z => ?_⟩, ?_⟩
  · rw [ew]
    show st_y st + _ ≤ _
    omega
  · subst z
    split at hij <;> omega
  · show st_w K ((r, i, p', y', c', a', e', n', t') :: st) + _ = _
    rw [ew, if_neg (fun z => absurd z.2 (by decide))]
    rfl
/-- part o begins -/
theorem wf_part (P : pg_T K V Z U B LN) {r i p y c : Nat} {a e n : Int32} {t : Nat} {st : List Fr} (W : st_wf K V U LN ((r, i, p, y, c, a, e, n, t) :: st)) {o p' y' : Nat} {a' e' n' : Int32} {t' : Nat} (ho : o < tk_np (K (40 * r + i)) (V (40 * r + i))) (hc : ¬ (K (40 * r + i) = 8 ∧ p' = 2)) (h1 : 1 ≤ p') (ok : fr_ok (K (40 * r + i)) (V (40 * r + i)) p' y' 0) (hw : tk_wt (K (40 * r + i)) (V (40 * r + i)) o = fr_cs (K (40 * r + i)) p') (hen : p' = 3 → en_ok K V U r i e' n' t') : st_wf K V U LN ((r, tr_ca (ro Z r) i o, 0, 0, 0, 0, 0, 0, 0) :: (r, i, p', y', 0, a', e', n', t') :: st) ∧ st_w K ((r, tr_ca (ro Z r) i o, 0, 0, 0, 0, 0, 0, 0) :: (r, i, p', y', 0, a', e', n', t') :: st) = st_w K st := by
  have hr := W.2.1
  have hi := W.2.2.1
  have T := P r hr (by omega)
  obtain ⟨t1, t2, t3, t4⟩ := (T.2.2.2 i hi).2.2.1 o ho
  have hso : tk_so (K (40 * r + tr_ca (ro Z r) i o)) = fr_cs (K (40 * r + i)) p' := t4.trans hw
  have hL := T.2.1
  refine wf_push W hc h1 ok t1 ?_ (by rw [if_pos rfl]; exact tr_ca_gt T hi (Nat.le_of_lt ho)) hso (fun lab t' hm hn => tr_NL_up hm hn t3 (by omega) (by omega)) hen
  rw [hso]
  unfold fr_cs
  repeat' split
  all_goals omega
theorem tk_wt18 {v : Int32} {c : Nat} (h1 : 1 ≤ c) (h2 : c ≤ tk_cn v) : tk_wt 17 v c = 2 := by
  unfold tk_wt
  rw [if_pos rfl, if_pos (by omega)]
theorem tk_so2 {k v : Int32} (hk : tk_ok k v) (h : tk_so k = 2) : k = 18 := by
  rcases tk_kinds hk with rfl | rfl | rfl | rfl | rfl | rfl | rfl | rfl | rfl | rfl | rfl | rfl | rfl | rfl | rfl | rfl | rfl | rfl | rfl | rfl | rfl
  all_goals first | rfl | exact absurd h (by decide)
/-- the statement of catch c begins -/
theorem tr_catch (P : pg_T K V Z U B LN) {r i : Nat} (hr : r < 4) (hi : i < LN r) (hk : K (40 * r + i) = 17) {c : Nat} (h1 : 1 ≤ c) (h2 : c ≤ tk_cn (V (40 * r + i))) : c < tk_np (K (40 * r + i)) (V (40 * r + i)) ∧ tr_ca (ro Z r) i c < LN r ∧ K (40 * r + tr_ca (ro Z r) i c) = 18 ∧ tr_ca (ro Z r) i c + 1 < LN r ∧ tk_so (K (40 * r + (tr_ca (ro Z r) i c + 1))) = 1 ∧ U (40 * r + (tr_ca (ro Z r) i c + 1)) = nI (tr_ca (ro Z r) i c) ∧ U (40 * r + tr_ca (ro Z r) i c) = nI i ∧ i < tr_ca (ro Z r) i c ∧ tr_ca (ro Z r) i (c + 1) = tr_ca (ro Z r) i c + 1 + (Z (40 * r + (tr_ca (ro Z r) i c + 1))).toNatClampNeg ∧ B (160 * r + (4 * tr_ca (ro Z r) i c + 0)) = nI (tr_ca (ro Z r) i c + 1) := by
  have T := P r hr (by omega)
  have hL := T.2.1
  have hc : c < tk_np (K (40 * r + i)) (V (40 * r + i)) := by
    rw [hk]
    unfold tk_np
    rw [if_pos rfl]
    omega
  obtain ⟨t1, t2, t3, t4⟩ := (T.2.2.2 i hi).2.2.1 c hc
  have hw : tk_wt (ro K r i) (ro V r i) c = 2 := by
    show tk_wt (K (40 * r + i)) _ c = 2
    rw [hk]
    exact tk_wt18 h1 h2
  have ek : K (40 * r + tr_ca (ro Z r) i c) = 18 := tk_so2 (T.2.2.2 _ t1).1 (t4.trans hw)
  have hn : tk_np (ro K r (tr_ca (ro Z r) i c)) (ro V r (tr_ca (ro Z r) i c)) = 1 := by
    show tk_np (K (40 * r + tr_ca (ro Z r) i c)) _ = 1
    rw [ek]
    rfl
  obtain ⟨q1, q2, q3, q4⟩ := (T.2.2.2 _ t1).2.2.1 0 (by rw [hn]; omega)
  have e0 : tr_ca (ro Z r) (tr_ca (ro Z r) i c) 0 = tr_ca (ro Z r) i c + 1 := rfl
  rw [e0] at q1 q2 q3 q4
  refine ⟨hc, t1, ek, q1, q4.trans ?_, q3, t3, tr_ca_gt T hi (Nat.le_of_lt hc), ?_, q2⟩
  · show tk_wt (K (40 * r + tr_ca (ro Z r) i c)) _ 0 = 1
    rw [ek]
    rfl
  · obtain ⟨s, s1, s2, s3, s4, s5⟩ := tr_sz T t1
    rw [hn] at s4
    have e1 : tr_ca (ro Z r) (tr_ca (ro Z r) i c) 1 = tr_ca (ro Z r) i c + 1 + (Z (40 * r + (tr_ca (ro Z r) i c + 1))).toNatClampNeg := rfl
    rw [← e1, s4]
    show _ + _ = _
    rw [s5]
theorem wf_hand (P : pg_T K V Z U B LN) {r i p y c : Nat} {a e n : Int32} {t : Nat} {st : List Fr} (W : st_wf K V U LN ((r, i, p, y, c, a, e, n, t) :: st)) (hk : K (40 * r + i) = 17) {c' : Nat} (h1 : 1 ≤ c') (h2 : c' ≤ tk_cn (V (40 * r + i))) {a' e' n' : Int32} {t' : Nat} : st_wf K V U LN ((r, tr_ca (ro Z r) i c' + 1, 0, 0, 0, 0, 0, 0, 0) :: (r, i, 2, c' + 1, c', a', e', n', t') :: st) ∧ st_w K ((r, tr_ca (ro Z r) i c' + 1, 0, 0, 0, 0, 0, 0, 0) :: (r, i, 2, c' + 1, c', a', e', n', t') :: st) = st_w K st := by
  obtain ⟨_, t1, ek, t2, t3, t4, t5, t6, _, _⟩ := tr_catch P W.2.1 W.2.2.1 hk h1 h2
  have hL := (P r W.2.1 (by have := W.2.2.1; omega)).2.1
  have hi := W.2.2.1
  refine wf_push W (fun z => absurd (hk.symm.trans z.1) (by decide)) (by omega) (Or.inl ⟨hk, Or.inr (Or.inr (Or.inl ⟨rfl, rfl, h1, h2⟩))⟩) t2 (by rw [t3]; decide) (by rw [if_neg (by omega)]; omega) (by rw [t3, hk]; rfl) (fun lab t' hm hn => ?_) (fun z => by omega)
  have g := tr_NL_up hm hn t4 (by omega) (by omega)
  exact tr_NL_up (fun z => absurd (ek.symm.trans z.1) (by decide)) g t5 (by omega) (by omega)
/-- a function begins -/
theorem wf_call (P : pg_T K V Z U B LN) {r i p y c : Nat} {a e n : Int32} {t : Nat} {st : List Fr} (W : st_wf K V U LN ((r, i, p, y, c, a, e, n, t) :: st)) (hk : K (40 * r + i) = 8) {f : Nat} (hf : f < 4) (hL : 1 ≤ LN f) {a' e' n' : Int32} {t' : Nat} : st_wf K V U LN ((f, 0, 0, 0, 0, 0, 0, 0, 0) :: (r, i, 2, 2, 0, a', e', n', t') :: st) ∧ st_w K ((f, 0, 0, 0, 0, 0, 0, 0, 0) :: (r, i, 2, 2, 0, a', e', n', t') :: st) = st_w K st + 1 := by
  obtain ⟨w1, w2, w3, w4, w5, w6, w7, w8, w9⟩ := W
  have T := P f hf hL
  have T' := (P r w2 (by omega)).2.1
  have hs : tk_so (K (40 * f + 0)) = 1 := T.2.2.1
  have ew : st_w K ((r, i, 2, 2, 0, a', e', n', t') :: st) = st_w K st + 1 := by show _ + _ = _; rw [if_pos ⟨hk, rfl⟩]
  have hp := st_w_pos K st
  refine ⟨⟨⟨w1, w2, w3, w4, Or.inr (Or.inr (Or.inl ⟨Or.inr hk, rfl, by omega, rfl⟩)), w6, fun z => by omega, w8, w9⟩, hf, by omega, tk_so18 (by rw [hs]; decide), fr_ok0 _ _, ?_, fun z => by omega, ⟨by omega, Or.inl ⟨hk, rfl, rfl⟩⟩, fun _ => hs⟩, ?_⟩
  · rw [ew]
    show st_y st + 1 ≤ _
    omega
  · show st_w K ((r, i, 2, 2, 0, a', e', n', t') :: st) + _ = _
    rw [ew, if_neg (fun z => absurd z.2 (by decide))]
end
