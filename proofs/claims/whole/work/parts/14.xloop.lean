/-- X's entries stand for the frames -/
def sx_S (K ET EP KE KN KV : Nat → Int32) : List Fr → Prop
  | [] => True
  | (r, i, p, _, _, a, e, n, _) :: st => sx_S K ET EP KE KN KV st ∧ ET st.length = nI (40 * r + i) ∧ EP st.length = nI p ∧ (p = 3 → KE st.length = e ∧ KN st.length = n ∧ KV st.length = a) ∧ (fr_b (K (40 * r + i)) p = 1 → KV st.length = a)
theorem sx_keep {K ET EP KE KN KV ET' EP' KE' KN' KV' : Nat → Int32} : ∀ st : List Fr, (∀ q, q < st.length → ET' q = ET q) → (∀ q, q < st.length → EP' q = EP q) → (∀ q, q < st.length → KE' q = KE q) → (∀ q, q < st.length → KN' q = KN q) → (∀ q, q < st.length → KV' q = KV q) → sx_S K ET EP KE KN KV st → sx_S K ET' EP' KE' KN' KV' st := by
  intro st
  induction st with
  | nil => intro _ _ _ _ _ _; trivial
  | cons f st ih =>
    obtain ⟨r, i, p, y, c, a, e, n, t⟩ := f
    intro h1 h2 h3 h4 h5 h
    obtain ⟨a1, a2, a3, a4, a5⟩ := h
    have hl : st.length < ((r, i, p, y, c, a, e, n, t) :: st).length := Nat.lt_succ_self _
    refine ⟨ih (fun q hq => h1 q (Nat.lt_succ_of_lt hq)) (fun q hq => h2 q (Nat.lt_succ_of_lt hq)) (fun q hq => h3 q (Nat.lt_succ_of_lt hq)) (fun q hq => h4 q (Nat.lt_succ_of_lt hq)) (fun q hq => h5 q (Nat.lt_succ_of_lt hq)) a1, (h1 _ hl).trans a2, (h2 _ hl).trans a3, fun z => ?_, fun z => (h5 _ hl).trans (a5 z)⟩
    obtain ⟨b1, b2, b3⟩ := a4 z
    exact ⟨(h3 _ hl).trans b1, (h4 _ hl).trans b2, (h5 _ hl).trans b3⟩
theorem fr_b0 (k : Int32) : ¬ fr_b k 0 = 1 := by
  unfold fr_b
  rw [if_neg (fun z => absurd z.2 (by decide))]
  decide
theorem st_w0 {K : Nat → Int32} {r j : Nat} {st : List Fr} : st_w K ((r, j, 0, 0, 0, 0, 0, 0, 0) :: st) = st_w K st := by
  show _ + _ = _
  rw [if_neg (fun z => absurd z.2 (by decide))]
  rfl
/-- X's loop from any state that stands for the frames -/
def XA (f_expectedCount f_draftLength f_latestPlace : Int32) (K V Z HB EX : Nat → Int32) (post : Int32 → SX → Prop) (m turn : Nat) (st : List Fr) (e n v : Int32) (s q : Nat) (va ou : Nat → Int32) : Prop :=
  ∀ ET EP KE KN KV : Nat → Int32, sx_S K ET EP KE KN KV st → wX_run_34 post m (nI turn) f_expectedCount f_draftLength f_latestPlace (nI st.length) (nI (st_w K st)) e n v (nI s) (nI q) 0 0 (-1) K V Z HB EX ET EP KE KN KV va ou
/-- what X's loop does with the part that comes next -/
def xc_K (post : Int32 → SX → Prop) (m turn : Nat) : Int32 → SX → Prop := fun r u => match u with
  | (f_expectedCount, f_draftLength, f_latestPlace, f_entryCount, f_working, f_ending, f_endNote, f_endValue, f_sayCount, f_stepCount, f_tooLong, f_latestResult, f_latestKind, a_tokenKind, a_tokenValue, a_tokenSize, a_hasBody, a_expected, a_entryToken, a_entryPhase, a_keptEnding, a_keptNote, a_keptValue, a_variables, a_output) => (r = (-1) → ∀ y : Int32, y = f_entryCount - 1 → ∀ z : Int32, z = nI turn + 1 → wX_run_34 post m z f_expectedCount f_draftLength f_latestPlace y f_working f_ending f_endNote f_endValue f_sayCount f_stepCount f_tooLong f_latestResult f_latestKind a_tokenKind a_tokenValue a_tokenSize a_hasBody a_expected a_entryToken a_entryPhase a_keptEnding a_keptNote a_keptValue a_variables a_output) ∧ (¬ r = (-1) → wpX_push (fun u => match u with
    | (f_expectedCount, f_draftLength, f_latestPlace, f_entryCount, f_working, f_ending, f_endNote, f_endValue, f_sayCount, f_stepCount, f_tooLong, f_latestResult, f_latestKind, a_tokenKind, a_tokenValue, a_tokenSize, a_hasBody, a_expected, a_entryToken, a_entryPhase, a_keptEnding, a_keptNote, a_keptValue, a_variables, a_output) => ∀ z : Int32, z = nI turn + 1 → wX_run_34 post m z f_expectedCount f_draftLength f_latestPlace f_entryCount f_working f_ending f_endNote f_endValue f_sayCount f_stepCount f_tooLong f_latestResult f_latestKind a_tokenKind a_tokenValue a_tokenSize a_hasBody a_expected a_entryToken a_entryPhase a_keptEnding a_keptNote a_keptValue a_variables a_output) (f_expectedCount, f_draftLength, f_latestPlace, f_entryCount, f_working, f_ending, f_endNote, f_endValue, f_sayCount, f_stepCount, f_tooLong, f_latestResult, f_latestKind, a_tokenKind, a_tokenValue, a_tokenSize, a_hasBody, a_expected, a_entryToken, a_entryPhase, a_keptEnding, a_keptNote, a_keptValue, a_variables, a_output) r)
/-- how a run may end: answer, result, kind, outputs, steps, variables, output -/
def XF (f_expectedCount f_draftLength f_latestPlace : Int32) (K V Z HB EX : Nat → Int32) (post : Int32 → SX → Prop) (r res kd : Int32) (s q : Nat) (va ou : Nat → Int32) : Prop :=
  ∀ (f_entryCount f_working f_ending f_endNote f_endValue f_tooLong : Int32) (ET EP KE KN KV : Nat → Int32), post r (f_expectedCount, f_draftLength, f_latestPlace, f_entryCount, f_working, f_ending, f_endNote, f_endValue, nI s, nI q, f_tooLong, res, kd, K, V, Z, HB, EX, ET, EP, KE, KN, KV, va, ou)
section
variable {f_expectedCount f_draftLength f_latestPlace f_entryCount f_working f_ending f_endNote f_endValue f_sayCount f_stepCount f_tooLong f_latestResult f_latestKind : Int32} {a_tokenKind a_tokenValue a_tokenSize a_hasBody a_expected a_entryToken a_entryPhase a_keptEnding a_keptNote a_keptValue a_variables a_output : Nat → Int32} {K V Z HB EX ET EP KE KN KV va ou : Nat → Int32} {post : Int32 → SX → Prop} {m turn : Nat} {st : List Fr} {e n v : Int32} {s q : Nat}
theorem xs_enter {c : Nat} (ht : turn < 1000000) (hc : c < 1000) (h : wpX_nextPart (xc_K post m turn) (f_expectedCount, f_draftLength, f_latestPlace, nI (c + 1), f_working, f_ending, f_endNote, f_endValue, f_sayCount, f_stepCount, 0, f_latestResult, f_latestKind, a_tokenKind, a_tokenValue, a_tokenSize, a_hasBody, a_expected, a_entryToken, a_entryPhase, a_keptEnding, a_keptNote, a_keptValue, a_variables, a_output)) : wX_run_34 post (m + 1) (nI turn) f_expectedCount f_draftLength f_latestPlace (nI (c + 1)) f_working f_ending f_endNote f_endValue f_sayCount f_stepCount 0 f_latestResult f_latestKind a_tokenKind a_tokenValue a_tokenSize a_hasBody a_expected a_entryToken a_entryPhase a_keptEnding a_keptNote a_keptValue a_variables a_output :=
  br_f (nI_ge (b := 1000000) ht (by decide)) (br_f (nI_nle (by omega) (by omega)) (br_t rfl h))
theorem xk_push {r j : Nat} (hl : st.length < 480) (hj : 40 * r + j < 200) (hs : sx_S K ET EP KE KN KV st) (h : XA f_expectedCount f_draftLength f_latestPlace K V Z HB EX post m (turn + 1) ((r, j, 0, 0, 0, 0, 0, 0, 0) :: st) 0 n v s q va ou) : xc_K post m turn (nI (40 * r + j)) (f_expectedCount, f_draftLength, f_latestPlace, nI st.length, nI (st_w K st), e, n, v, nI s, nI q, 0, 0, -1, K, V, Z, HB, EX, ET, EP, KE, KN, KV, va, ou) := by
  refine br_f (qb_ne_m1 (by omega)) (br_t (nI_lt (b := 480) hl (by decide)) ⟨vp_in_nI hl (by decide), nm_r (e' := upd ET st.length (nI (40 * r + j))) (by rw [nI_clamp (by omega)]) ⟨vp_in_nI hl (by decide), nm_r (e' := upd EP st.length 0) (by rw [nI_clamp (by omega)]) (nm_r (nI_1 _) (nm_r (nI_1 turn) ?_))⟩⟩)
  have := h (upd ET st.length (nI (40 * r + j))) (upd EP st.length 0) KE KN KV ⟨sx_keep st (fun q hq => pk_un (by omega)) (fun q hq => pk_un (by omega)) (fun _ _ => rfl) (fun _ _ => rfl) (fun _ _ => rfl) hs, pk_us, pk_us, fun z => by omega, fun z => (fr_b0 _ z).elim⟩
  rw [st_w0] at this
  exact this
theorem xk_pop (hs : sx_S K ET EP KE KN KV st) (h : XA f_expectedCount f_draftLength f_latestPlace K V Z HB EX post m (turn + 1) st e n v s q va ou) : xc_K post m turn (-1) (f_expectedCount, f_draftLength, f_latestPlace, nI (st.length + 1), nI (st_w K st), e, n, v, nI s, nI q, 0, 0, -1, K, V, Z, HB, EX, ET, EP, KE, KN, KV, va, ou) :=
  br_t rfl (nm_r (nI_pred _) (nm_r (nI_1 turn) (h ET EP KE KN KV hs)))
theorem xk_over (h : XF f_expectedCount f_draftLength f_latestPlace K V Z HB EX post 4 0 (-1) s q va ou) : xc_K post (m + 1) turn (-1) (f_expectedCount, f_draftLength, f_latestPlace, f_entryCount, f_working, e, n, v, nI s, nI q, 1, 0, -1, K, V, Z, HB, EX, ET, EP, KE, KN, KV, va, ou) := by
  have g : ∀ y z : Int32, wX_run_34 post (m + 1) z f_expectedCount f_draftLength f_latestPlace y f_working e n v (nI s) (nI q) 1 0 (-1) K V Z HB EX ET EP KE KN KV va ou := by
    intro y z
    have k : wX_run_92 post f_expectedCount f_draftLength f_latestPlace y f_working e n v (nI s) (nI q) 1 0 (-1) K V Z HB EX ET EP KE KN KV va ou := br_f (by decide) (h _ _ _ _ _ _ _ _ _ _ _)
    exact br_c (fun _ => k) (fun _ => br_c (fun _ => k) (fun _ => br_f (by decide) k))
  exact br_t rfl (fun y _ z _ => g y z)
theorem xa_nil0 (h : XF f_expectedCount f_draftLength f_latestPlace K V Z HB EX post 0 0 (-1) s q va ou) : XA f_expectedCount f_draftLength f_latestPlace K V Z HB EX post 1 turn [] 0 n v s q va ou := by
  intro ET EP KE KN KV _
  have k : wX_run_92 post f_expectedCount f_draftLength f_latestPlace (nI 0) (nI (st_w K [])) 0 n v (nI s) (nI q) 0 0 (-1) K V Z HB EX ET EP KE KN KV va ou := br_t rfl (br_f (by decide) (br_f (by decide) (h _ _ _ _ _ _ _ _ _ _ _)))
  exact br_c (fun _ => k) (fun _ => br_t (by decide) k)
theorem xa_nil3 (h : XF f_expectedCount f_draftLength f_latestPlace K V Z HB EX post 0 v (-1) s q va ou) : XA f_expectedCount f_draftLength f_latestPlace K V Z HB EX post 1 turn [] 3 n v s q va ou := by
  intro ET EP KE KN KV _
  have k : wX_run_92 post f_expectedCount f_draftLength f_latestPlace (nI 0) (nI (st_w K [])) 3 n v (nI s) (nI q) 0 0 (-1) K V Z HB EX ET EP KE KN KV va ou := br_t rfl (br_f (by decide) (br_t (by decide) (h _ _ _ _ _ _ _ _ _ _ _)))
  exact br_c (fun _ => k) (fun _ => br_t (by decide) k)
theorem xa_nil4 (h : XF f_expectedCount f_draftLength f_latestPlace K V Z HB EX post 3 v n s q va ou) : XA f_expectedCount f_draftLength f_latestPlace K V Z HB EX post 1 turn [] 4 n v s q va ou := by
  intro ET EP KE KN KV _
  have k : wX_run_92 post f_expectedCount f_draftLength f_latestPlace (nI 0) (nI (st_w K [])) 4 n v (nI s) (nI q) 0 0 (-1) K V Z HB EX ET EP KE KN KV va ou := br_t rfl (br_t (by decide) (h _ _ _ _ _ _ _ _ _ _ _))
  exact br_c (fun _ => k) (fun _ => br_t (by decide) k)
end
section
variable {f_expectedCount f_draftLength f_latestPlace f_entryCount f_working f_ending f_endNote f_endValue f_sayCount f_stepCount f_tooLong f_latestResult f_latestKind : Int32} {a_tokenKind a_tokenValue a_tokenSize a_hasBody a_expected a_entryToken a_entryPhase a_keptEnding a_keptNote a_keptValue a_variables a_output : Nat → Int32} {post : Int32 → SX → Prop} {l j p : Nat}
theorem xn_call (hl : l < 480) (hj : j < 200) (eT : a_entryToken l = nI j) (eP : a_entryPhase l = nI p) (hk : a_tokenKind j = 8) (h : wpX_nextOfCall post (f_expectedCount, f_draftLength, f_latestPlace, nI (l + 1), f_working, f_ending, f_endNote, f_endValue, f_sayCount, f_stepCount, f_tooLong, f_latestResult, f_latestKind, a_tokenKind, a_tokenValue, a_tokenSize, a_hasBody, a_expected, a_entryToken, upd a_entryPhase l (nI (p + 1)), a_keptEnding, a_keptNote, a_keptValue, a_variables, a_output) (nI l) (nI p)) : wpX_nextPart post (f_expectedCount, f_draftLength, f_latestPlace, nI (l + 1), f_working, f_ending, f_endNote, f_endValue, f_sayCount, f_stepCount, f_tooLong, f_latestResult, f_latestKind, a_tokenKind, a_tokenValue, a_tokenSize, a_hasBody, a_expected, a_entryToken, a_entryPhase, a_keptEnding, a_keptNote, a_keptValue, a_variables, a_output) := by
  refine nm_r (e' := nI l) (nI_pred l) ⟨vp_in_nI hl (by decide), nm_r (e' := nI j) (by rw [nI_clamp (by omega), eT]) ⟨vp_in_nI hl (by decide), nm_r (e' := nI p) (by rw [nI_clamp (by omega), eP]) ⟨vp_in_nI hl (by decide), nm_r (e' := upd a_entryPhase l (nI (p + 1))) (by rw [nI_clamp (by omega), nI_1]) ⟨vp_in_nI hj (by decide), nm_r (e' := 8) (by rw [nI_clamp (by omega), hk]) ?_⟩⟩⟩⟩
  repeat (first | exact h | refine br_t (by decide) ?_ | refine br_f (by decide) ?_)
theorem xn_if (hl : l < 480) (hj : j < 200) (eT : a_entryToken l = nI j) (eP : a_entryPhase l = nI p) (hk : a_tokenKind j = 12) (h : wpX_nextOfIf (fun r => post r (f_expectedCount, f_draftLength, f_latestPlace, nI (l + 1), f_working, f_ending, f_endNote, f_endValue, f_sayCount, f_stepCount, f_tooLong, f_latestResult, f_latestKind, a_tokenKind, a_tokenValue, a_tokenSize, a_hasBody, a_expected, a_entryToken, upd a_entryPhase l (nI (p + 1)), a_keptEnding, a_keptNote, a_keptValue, a_variables, a_output)) (f_expectedCount, f_draftLength, f_latestPlace, nI (l + 1), f_working, f_ending, f_endNote, f_endValue, f_sayCount, f_stepCount, f_tooLong, f_latestResult, f_latestKind, a_tokenKind, a_tokenValue, a_tokenSize, a_hasBody, a_expected, a_entryToken, upd a_entryPhase l (nI (p + 1)), a_keptEnding, a_keptNote, a_keptValue, a_variables, a_output) (nI j) (nI p)) : wpX_nextPart post (f_expectedCount, f_draftLength, f_latestPlace, nI (l + 1), f_working, f_ending, f_endNote, f_endValue, f_sayCount, f_stepCount, f_tooLong, f_latestResult, f_latestKind, a_tokenKind, a_tokenValue, a_tokenSize, a_hasBody, a_expected, a_entryToken, a_entryPhase, a_keptEnding, a_keptNote, a_keptValue, a_variables, a_output) := by
  refine nm_r (e' := nI l) (nI_pred l) ⟨vp_in_nI hl (by decide), nm_r (e' := nI j) (by rw [nI_clamp (by omega), eT]) ⟨vp_in_nI hl (by decide), nm_r (e' := nI p) (by rw [nI_clamp (by omega), eP]) ⟨vp_in_nI hl (by decide), nm_r (e' := upd a_entryPhase l (nI (p + 1))) (by rw [nI_clamp (by omega), nI_1]) ⟨vp_in_nI hj (by decide), nm_r (e' := 12) (by rw [nI_clamp (by omega), hk]) ?_⟩⟩⟩⟩
  repeat (first | exact h | refine br_t (by decide) ?_ | refine br_f (by decide) ?_)
theorem xn_while (hl : l < 480) (hj : j < 200) (eT : a_entryToken l = nI j) (eP : a_entryPhase l = nI p) (hk : a_tokenKind j = 13) (h : wpX_nextOfWhile post (f_expectedCount, f_draftLength, f_latestPlace, nI (l + 1), f_working, f_ending, f_endNote, f_endValue, f_sayCount, f_stepCount, f_tooLong, f_latestResult, f_latestKind, a_tokenKind, a_tokenValue, a_tokenSize, a_hasBody, a_expected, a_entryToken, upd a_entryPhase l (nI (p + 1)), a_keptEnding, a_keptNote, a_keptValue, a_variables, a_output) (nI l) (nI p)) : wpX_nextPart post (f_expectedCount, f_draftLength, f_latestPlace, nI (l + 1), f_working, f_ending, f_endNote, f_endValue, f_sayCount, f_stepCount, f_tooLong, f_latestResult, f_latestKind, a_tokenKind, a_tokenValue, a_tokenSize, a_hasBody, a_expected, a_entryToken, a_entryPhase, a_keptEnding, a_keptNote, a_keptValue, a_variables, a_output) := by
  refine nm_r (e' := nI l) (nI_pred l) ⟨vp_in_nI hl (by decide), nm_r (e' := nI j) (by rw [nI_clamp (by omega), eT]) ⟨vp_in_nI hl (by decide), nm_r (e' := nI p) (by rw [nI_clamp (by omega), eP]) ⟨vp_in_nI hl (by decide), nm_r (e' := upd a_entryPhase l (nI (p + 1))) (by rw [nI_clamp (by omega), nI_1]) ⟨vp_in_nI hj (by decide), nm_r (e' := 13) (by rw [nI_clamp (by omega), hk]) ?_⟩⟩⟩⟩
  repeat (first | exact h | refine br_t (by decide) ?_ | refine br_f (by decide) ?_)
theorem xn_try (hl : l < 480) (hj : j < 200) (eT : a_entryToken l = nI j) (eP : a_entryPhase l = nI p) (hk : a_tokenKind j = 17) (h : wpX_nextOfTry post (f_expectedCount, f_draftLength, f_latestPlace, nI (l + 1), f_working, f_ending, f_endNote, f_endValue, f_sayCount, f_stepCount, f_tooLong, f_latestResult, f_latestKind, a_tokenKind, a_tokenValue, a_tokenSize, a_hasBody, a_expected, a_entryToken, upd a_entryPhase l (nI (p + 1)), a_keptEnding, a_keptNote, a_keptValue, a_variables, a_output) (nI l) (nI p)) : wpX_nextPart post (f_expectedCount, f_draftLength, f_latestPlace, nI (l + 1), f_working, f_ending, f_endNote, f_endValue, f_sayCount, f_stepCount, f_tooLong, f_latestResult, f_latestKind, a_tokenKind, a_tokenValue, a_tokenSize, a_hasBody, a_expected, a_entryToken, a_entryPhase, a_keptEnding, a_keptNote, a_keptValue, a_variables, a_output) := by
  refine nm_r (e' := nI l) (nI_pred l) ⟨vp_in_nI hl (by decide), nm_r (e' := nI j) (by rw [nI_clamp (by omega), eT]) ⟨vp_in_nI hl (by decide), nm_r (e' := nI p) (by rw [nI_clamp (by omega), eP]) ⟨vp_in_nI hl (by decide), nm_r (e' := upd a_entryPhase l (nI (p + 1))) (by rw [nI_clamp (by omega), nI_1]) ⟨vp_in_nI hj (by decide), nm_r (e' := 17) (by rw [nI_clamp (by omega), hk]) ?_⟩⟩⟩⟩
  repeat (first | exact h | refine br_t (by decide) ?_ | refine br_f (by decide) ?_)
def tk_plain (k : Int32) : Prop := k ≠ 8 ∧ k ≠ 12 ∧ k ≠ 13 ∧ k ≠ 17
theorem xn_plain (hl : l < 480) (hj : j < 200) (eT : a_entryToken l = nI j) (eP : a_entryPhase l = nI p) {v : Int32} (hk : tk_ok (a_tokenKind j) v) (hp : tk_plain (a_tokenKind j)) (h : wpX_nextOfPlain post (f_expectedCount, f_draftLength, f_latestPlace, nI (l + 1), f_working, f_ending, f_endNote, f_endValue, f_sayCount, f_stepCount, f_tooLong, f_latestResult, f_latestKind, a_tokenKind, a_tokenValue, a_tokenSize, a_hasBody, a_expected, a_entryToken, upd a_entryPhase l (nI (p + 1)), a_keptEnding, a_keptNote, a_keptValue, a_variables, a_output) (nI l) (nI p)) : wpX_nextPart post (f_expectedCount, f_draftLength, f_latestPlace, nI (l + 1), f_working, f_ending, f_endNote, f_endValue, f_sayCount, f_stepCount, f_tooLong, f_latestResult, f_latestKind, a_tokenKind, a_tokenValue, a_tokenSize, a_hasBody, a_expected, a_entryToken, a_entryPhase, a_keptEnding, a_keptNote, a_keptValue, a_variables, a_output) := by
  refine nm_r (e' := nI l) (nI_pred l) ⟨vp_in_nI hl (by decide), nm_r (e' := nI j) (by rw [nI_clamp (by omega), eT]) ⟨vp_in_nI hl (by decide), nm_r (e' := nI p) (by rw [nI_clamp (by omega), eP]) ⟨vp_in_nI hl (by decide), nm_r (e' := upd a_entryPhase l (nI (p + 1))) (by rw [nI_clamp (by omega), nI_1]) ⟨vp_in_nI hj (by decide), nm_r (e' := a_tokenKind j) (by rw [nI_clamp (by omega)]) ?_⟩⟩⟩⟩
  obtain ⟨h8, h12, h13, h17⟩ := hp
  have h' : wX_nextPart_120 post (nI l) (nI p) f_expectedCount f_draftLength f_latestPlace (nI (l + 1)) f_working f_ending f_endNote f_endValue f_sayCount f_stepCount f_tooLong f_latestResult f_latestKind a_tokenKind a_tokenValue a_tokenSize a_hasBody a_expected a_entryToken (upd a_entryPhase l (nI (p + 1))) a_keptEnding a_keptNote a_keptValue a_variables a_output := h
  have hk' := tk_kinds hk
  generalize hkk : a_tokenKind j = k at hk' h8 h12 h13 h17 ⊢
  rcases hk' with e | e | e | e | e | e | e | e | e | e | e | e | e | e | e | e | e | e | e | e | e <;> cases e
  all_goals first
    | exact absurd rfl h8
    | exact absurd rfl h12
    | exact absurd rfl h13
    | exact absurd rfl h17
    | (repeat (first | exact h' | refine br_t (by decide) ?_ | refine br_f (by decide) ?_))
end
