section
variable {f_expectedCount f_draftLength f_latestPlace f_entryCount f_working f_ending f_endNote f_endValue f_sayCount f_stepCount f_tooLong f_latestResult f_latestKind : Int32} {a_tokenKind a_tokenValue a_tokenSize a_hasBody a_expected a_entryToken a_entryPhase a_keptEnding a_keptNote a_keptValue a_variables a_output : Nat → Int32} {post : Int32 → SX → Prop} {l r i p : Nat} {U B : Nat → Int32} {LN : Nat → Nat}
theorem xi_part {post : Int32 → Prop} (P : pg_T a_tokenKind a_tokenValue a_tokenSize U B LN) (hr : r < 4) (hi : i < LN r) (hk : a_tokenKind (40 * r + i) = 12) (h : post (nI (40 * r + tr_ca (ro a_tokenSize r) i (if f_endValue = 0 then 2 else 1)))) : wpX_nextOfIf post (f_expectedCount, f_draftLength, f_latestPlace, f_entryCount, f_working, 0, f_endNote, f_endValue, f_sayCount, f_stepCount, f_tooLong, f_latestResult, f_latestKind, a_tokenKind, a_tokenValue, a_tokenSize, a_hasBody, a_expected, a_entryToken, a_entryPhase, a_keptEnding, a_keptNote, a_keptValue, a_variables, a_output) (nI (40 * r + i)) (nI 1) := by
  have hn : tk_np (a_tokenKind (40 * r + i)) (a_tokenValue (40 * r + i)) = 3 := by rw [hk]; rfl
  refine br_f (by decide) (br_f (by decide) (br_t rfl (br_c (fun z => ?_) (fun z => ?_))))
  · rw [if_pos z] at h
    exact qx_partAt (o := 2) (tr_pa P hr hi (by omega)) (by omega) h
  · rw [if_neg z] at h
    exact qx_partAt (o := 1) (tr_pa P hr hi (by omega)) (by omega) h
theorem xi_0 {post : Int32 → Prop} {j : Nat} (h : post (nI (j + 1))) : wpX_nextOfIf post (f_expectedCount, f_draftLength, f_latestPlace, f_entryCount, f_working, f_ending, f_endNote, f_endValue, f_sayCount, f_stepCount, f_tooLong, f_latestResult, f_latestKind, a_tokenKind, a_tokenValue, a_tokenSize, a_hasBody, a_expected, a_entryToken, a_entryPhase, a_keptEnding, a_keptNote, a_keptValue, a_variables, a_output) (nI j) (nI 0) := br_t rfl (by rw [nI_1]; exact h)
theorem xi_stop {post : Int32 → Prop} {j : Nat} (hp : p = 2 ∨ (p = 1 ∧ ¬ f_ending = 0)) (h : post (-1)) : wpX_nextOfIf post (f_expectedCount, f_draftLength, f_latestPlace, f_entryCount, f_working, f_ending, f_endNote, f_endValue, f_sayCount, f_stepCount, f_tooLong, f_latestResult, f_latestKind, a_tokenKind, a_tokenValue, a_tokenSize, a_hasBody, a_expected, a_entryToken, a_entryPhase, a_keptEnding, a_keptNote, a_keptValue, a_variables, a_output) (nI j) (nI p) := by
  rcases hp with rfl | ⟨rfl, he⟩
  · exact br_f (by decide) (br_t rfl h)
  · exact br_f (by decide) (br_f (by decide) (br_f he h))
/-- a loop's step -/
theorem xw_step {q j : Nat} (hl : l < 480) (hq : q < 300) (h : post (nI (j + 1)) (f_expectedCount, f_draftLength, f_latestPlace, f_entryCount, f_working, f_ending, f_endNote, f_endValue, f_sayCount, nI (q + 1), f_tooLong, f_latestResult, f_latestKind, a_tokenKind, a_tokenValue, a_tokenSize, a_hasBody, a_expected, a_entryToken, upd a_entryPhase l 1, a_keptEnding, a_keptNote, a_keptValue, a_variables, a_output)) : wX_nextOfWhile_57 post (nI l) (nI j) f_expectedCount f_draftLength f_latestPlace f_entryCount f_working f_ending f_endNote f_endValue f_sayCount (nI q) f_tooLong f_latestResult f_latestKind a_tokenKind a_tokenValue a_tokenSize a_hasBody a_expected a_entryToken a_entryPhase a_keptEnding a_keptNote a_keptValue a_variables a_output :=
  br_t (nI_lt (b := 300) hq (by decide)) (nm_r (nI_1 q) (br_f (by decide) ⟨vp_in_nI hl (by decide), nm_r (e' := upd a_entryPhase l 1) (by rw [nI_clamp (by omega)]) (by rw [nI_1]; exact h)⟩))
theorem xw_over {j : Nat} (h : post (-1) (f_expectedCount, f_draftLength, f_latestPlace, f_entryCount, f_working, f_ending, f_endNote, f_endValue, f_sayCount, nI 300, 1, f_latestResult, f_latestKind, a_tokenKind, a_tokenValue, a_tokenSize, a_hasBody, a_expected, a_entryToken, a_entryPhase, a_keptEnding, a_keptNote, a_keptValue, a_variables, a_output)) : wX_nextOfWhile_57 post (nI l) (nI j) f_expectedCount f_draftLength f_latestPlace f_entryCount f_working f_ending f_endNote f_endValue f_sayCount (nI 300) f_tooLong f_latestResult f_latestKind a_tokenKind a_tokenValue a_tokenSize a_hasBody a_expected a_entryToken a_entryPhase a_keptEnding a_keptNote a_keptValue a_variables a_output :=
  br_f (by decide) (br_t rfl h)
theorem xw_0 {j : Nat} (hl : l < 480) (hj : j < 200) (eT : a_entryToken l = nI j) (h : wX_nextOfWhile_57 post (nI l) (nI j) f_expectedCount f_draftLength f_latestPlace f_entryCount f_working f_ending f_endNote f_endValue f_sayCount f_stepCount f_tooLong f_latestResult f_latestKind a_tokenKind a_tokenValue a_tokenSize a_hasBody a_expected a_entryToken a_entryPhase a_keptEnding a_keptNote a_keptValue a_variables a_output) : wpX_nextOfWhile post (f_expectedCount, f_draftLength, f_latestPlace, f_entryCount, f_working, f_ending, f_endNote, f_endValue, f_sayCount, f_stepCount, f_tooLong, f_latestResult, f_latestKind, a_tokenKind, a_tokenValue, a_tokenSize, a_hasBody, a_expected, a_entryToken, a_entryPhase, a_keptEnding, a_keptNote, a_keptValue, a_variables, a_output) (nI l) (nI 0) :=
  ⟨vp_in_nI hl (by decide), nm_r (e' := nI j) (by rw [nI_clamp (by omega), eT]) (br_f (by decide) (br_f (by decide) h))⟩
theorem xw_1go (P : pg_T a_tokenKind a_tokenValue a_tokenSize U B LN) (hr : r < 4) (hi : i < LN r) (hk : a_tokenKind (40 * r + i) = 13) (hl : l < 480) (eT : a_entryToken l = nI (40 * r + i)) (hv : ¬ f_endValue = 0) (h : post (nI (40 * r + tr_ca (ro a_tokenSize r) i 1)) (f_expectedCount, f_draftLength, f_latestPlace, f_entryCount, f_working, 0, f_endNote, f_endValue, f_sayCount, f_stepCount, f_tooLong, f_latestResult, f_latestKind, a_tokenKind, a_tokenValue, a_tokenSize, a_hasBody, a_expected, a_entryToken, a_entryPhase, a_keptEnding, a_keptNote, a_keptValue, a_variables, a_output)) : wpX_nextOfWhile post (f_expectedCount, f_draftLength, f_latestPlace, f_entryCount, f_working, 0, f_endNote, f_endValue, f_sayCount, f_stepCount, f_tooLong, f_latestResult, f_latestKind, a_tokenKind, a_tokenValue, a_tokenSize, a_hasBody, a_expected, a_entryToken, a_entryPhase, a_keptEnding, a_keptNote, a_keptValue, a_variables, a_output) (nI l) (nI 1) := by
  have hn : tk_np (a_tokenKind (40 * r + i)) (a_tokenValue (40 * r + i)) = 2 := by rw [hk]; rfl
  exact ⟨vp_in_nI hl (by decide), nm_r (e' := nI (40 * r + i)) (by rw [nI_clamp (by omega), eT]) (br_t rfl (br_t rfl (br_f hv (qx_partAt (o := 1) (tr_pa P hr hi (by omega)) (by omega) h))))⟩
theorem xw_1stop (hl : l < 480) (hv : f_ending = 0 → f_endValue = 0) (h : post (-1) (f_expectedCount, f_draftLength, f_latestPlace, f_entryCount, f_working, f_ending, f_endNote, f_endValue, f_sayCount, f_stepCount, f_tooLong, f_latestResult, f_latestKind, a_tokenKind, a_tokenValue, a_tokenSize, a_hasBody, a_expected, a_entryToken, a_entryPhase, a_keptEnding, a_keptNote, a_keptValue, a_variables, a_output)) : wpX_nextOfWhile post (f_expectedCount, f_draftLength, f_latestPlace, f_entryCount, f_working, f_ending, f_endNote, f_endValue, f_sayCount, f_stepCount, f_tooLong, f_latestResult, f_latestKind, a_tokenKind, a_tokenValue, a_tokenSize, a_hasBody, a_expected, a_entryToken, a_entryPhase, a_keptEnding, a_keptNote, a_keptValue, a_variables, a_output) (nI l) (nI 1) :=
  ⟨vp_in_nI hl (by decide), nm_e (br_t rfl (br_c (fun z => br_t (hv z) h) (fun _ => h)))⟩
theorem xw_2go {j : Nat} (hl : l < 480) (hj : j < 200) (eT : a_entryToken l = nI j) (he : f_ending = 0 ∨ (f_ending = 2 ∧ f_endNote = a_tokenValue j)) (h : wX_nextOfWhile_57 post (nI l) (nI j) f_expectedCount f_draftLength f_latestPlace f_entryCount f_working f_ending f_endNote f_endValue f_sayCount f_stepCount f_tooLong f_latestResult f_latestKind a_tokenKind a_tokenValue a_tokenSize a_hasBody a_expected a_entryToken a_entryPhase a_keptEnding a_keptNote a_keptValue a_variables a_output) : wpX_nextOfWhile post (f_expectedCount, f_draftLength, f_latestPlace, f_entryCount, f_working, f_ending, f_endNote, f_endValue, f_sayCount, f_stepCount, f_tooLong, f_latestResult, f_latestKind, a_tokenKind, a_tokenValue, a_tokenSize, a_hasBody, a_expected, a_entryToken, a_entryPhase, a_keptEnding, a_keptNote, a_keptValue, a_variables, a_output) (nI l) (nI 2) := by
  refine ⟨vp_in_nI hl (by decide), nm_r (e' := nI j) (by rw [nI_clamp (by omega), eT]) (br_f (by decide) (br_t rfl ⟨vp_in_nI hj (by decide), ?_⟩))⟩
  rw [nI_clamp (n := j) (by omega)]
  rcases he with rfl | ⟨rfl, hn⟩
  · exact br_f (by decide) (br_t rfl (br_f (by decide) h))
  · exact br_f (by decide) (br_f (by decide) (br_t rfl (br_t hn (br_f (by decide) h))))
theorem xw_2brk {j : Nat} (hl : l < 480) (hj : j < 200) (eT : a_entryToken l = nI j) (h : post (-1) (f_expectedCount, f_draftLength, f_latestPlace, f_entryCount, f_working, 0, a_tokenValue j, f_endValue, f_sayCount, f_stepCount, f_tooLong, f_latestResult, f_latestKind, a_tokenKind, a_tokenValue, a_tokenSize, a_hasBody, a_expected, a_entryToken, a_entryPhase, a_keptEnding, a_keptNote, a_keptValue, a_variables, a_output)) : wpX_nextOfWhile post (f_expectedCount, f_draftLength, f_latestPlace, f_entryCount, f_working, 1, a_tokenValue j, f_endValue, f_sayCount, f_stepCount, f_tooLong, f_latestResult, f_latestKind, a_tokenKind, a_tokenValue, a_tokenSize, a_hasBody, a_expected, a_entryToken, a_entryPhase, a_keptEnding, a_keptNote, a_keptValue, a_variables, a_output) (nI l) (nI 2) := by
  refine ⟨vp_in_nI hl (by decide), nm_r (e' := nI j) (by rw [nI_clamp (by omega), eT]) (br_f (by decide) (br_t rfl ⟨vp_in_nI hj (by decide), ?_⟩))⟩
  rw [nI_clamp (n := j) (by omega)]
  exact br_t rfl (br_t rfl (br_t rfl h))
theorem xw_2out {j : Nat} (hl : l < 480) (hj : j < 200) (eT : a_entryToken l = nI j) (h0 : ¬ f_ending = 0) (hn : f_ending = 1 ∨ f_ending = 2 → ¬ f_endNote = a_tokenValue j) (h : post (-1) (f_expectedCount, f_draftLength, f_latestPlace, f_entryCount, f_working, f_ending, f_endNote, f_endValue, f_sayCount, f_stepCount, f_tooLong, f_latestResult, f_latestKind, a_tokenKind, a_tokenValue, a_tokenSize, a_hasBody, a_expected, a_entryToken, a_entryPhase, a_keptEnding, a_keptNote, a_keptValue, a_variables, a_output)) : wpX_nextOfWhile post (f_expectedCount, f_draftLength, f_latestPlace, f_entryCount, f_working, f_ending, f_endNote, f_endValue, f_sayCount, f_stepCount, f_tooLong, f_latestResult, f_latestKind, a_tokenKind, a_tokenValue, a_tokenSize, a_hasBody, a_expected, a_entryToken, a_entryPhase, a_keptEnding, a_keptNote, a_keptValue, a_variables, a_output) (nI l) (nI 2) := by
  refine ⟨vp_in_nI hl (by decide), nm_r (e' := nI j) (by rw [nI_clamp (by omega), eT]) (br_f (by decide) (br_t rfl ⟨vp_in_nI hj (by decide), ?_⟩))⟩
  rw [nI_clamp (n := j) (by omega)]
  have g : wX_goesOn_23 (fun r_35 u => match u with | (f_expectedCount, f_draftLength, f_latestPlace, f_entryCount, f_working, f_ending, f_endNote, f_endValue, f_sayCount, f_stepCount, f_tooLong, f_latestResult, f_latestKind, a_tokenKind, a_tokenValue, a_tokenSize, a_hasBody, a_expected, a_entryToken, a_entryPhase, a_keptEnding, a_keptNote, a_keptValue, a_variables, a_output) => (r_35 = 0 → post (-1) (f_expectedCount, f_draftLength, f_latestPlace, f_entryCount, f_working, f_ending, f_endNote, f_endValue, f_sayCount, f_stepCount, f_tooLong, f_latestResult, f_latestKind, a_tokenKind, a_tokenValue, a_tokenSize, a_hasBody, a_expected, a_entryToken, a_entryPhase, a_keptEnding, a_keptNote, a_keptValue, a_variables, a_output)) ∧ (¬ r_35 = 0 → wX_nextOfWhile_57 post (nI l) (nI j) f_expectedCount f_draftLength f_latestPlace f_entryCount f_working f_ending f_endNote f_endValue f_sayCount f_stepCount f_tooLong f_latestResult f_latestKind a_tokenKind a_tokenValue a_tokenSize a_hasBody a_expected a_entryToken a_entryPhase a_keptEnding a_keptNote a_keptValue a_variables a_output)) (a_tokenValue j) f_expectedCount f_draftLength f_latestPlace f_entryCount f_working f_ending f_endNote f_endValue f_sayCount f_stepCount f_tooLong f_latestResult f_latestKind a_tokenKind a_tokenValue a_tokenSize a_hasBody a_expected a_entryToken a_entryPhase a_keptEnding a_keptNote a_keptValue a_variables a_output := br_f h0 (br_c (fun z => br_f (hn (Or.inr z)) (br_t rfl h)) (fun _ => br_t rfl h))
  exact br_c (fun z => br_f (hn (Or.inl z)) g) (fun _ => g)
theorem xc_0 {j : Nat} (hl : l < 480) (eT : a_entryToken l = nI j) (h : post (nI (j + 1)) (f_expectedCount, f_draftLength, f_latestPlace, f_entryCount, f_working, f_ending, f_endNote, f_endValue, f_sayCount, f_stepCount, f_tooLong, f_latestResult, f_latestKind, a_tokenKind, a_tokenValue, a_tokenSize, a_hasBody, a_expected, a_entryToken, a_entryPhase, a_keptEnding, a_keptNote, a_keptValue, a_variables, a_output)) : wpX_nextOfCall post (f_expectedCount, f_draftLength, f_latestPlace, f_entryCount, f_working, f_ending, f_endNote, f_endValue, f_sayCount, f_stepCount, f_tooLong, f_latestResult, f_latestKind, a_tokenKind, a_tokenValue, a_tokenSize, a_hasBody, a_expected, a_entryToken, a_entryPhase, a_keptEnding, a_keptNote, a_keptValue, a_variables, a_output) (nI l) (nI 0) :=
  ⟨vp_in_nI hl (by decide), nm_r (e' := nI j) (by rw [nI_clamp (by omega), eT]) (br_t rfl (by rw [nI_1]; exact h))⟩
theorem xc_1stop (hl : l < 480) (he : ¬ f_ending = 0) (h : post (-1) (f_expectedCount, f_draftLength, f_latestPlace, f_entryCount, f_working, f_ending, f_endNote, f_endValue, f_sayCount, f_stepCount, f_tooLong, f_latestResult, f_latestKind, a_tokenKind, a_tokenValue, a_tokenSize, a_hasBody, a_expected, a_entryToken, a_entryPhase, a_keptEnding, a_keptNote, a_keptValue, a_variables, a_output)) : wpX_nextOfCall post (f_expectedCount, f_draftLength, f_latestPlace, f_entryCount, f_working, f_ending, f_endNote, f_endValue, f_sayCount, f_stepCount, f_tooLong, f_latestResult, f_latestKind, a_tokenKind, a_tokenValue, a_tokenSize, a_hasBody, a_expected, a_entryToken, a_entryPhase, a_keptEnding, a_keptNote, a_keptValue, a_variables, a_output) (nI l) (nI 1) :=
  ⟨vp_in_nI hl (by decide), nm_e (br_f (by decide) (br_t rfl (br_f he h)))⟩
theorem xc_1go {j f : Nat} (hl : l < 480) (hj : j < 200) (eT : a_entryToken l = nI j) (hv : a_tokenValue j = nI f) (h : wpX_beginFunction post (f_expectedCount, f_draftLength, f_latestPlace, f_entryCount, f_working, 0, f_endNote, f_endValue, f_sayCount, f_stepCount, f_tooLong, f_latestResult, f_latestKind, a_tokenKind, a_tokenValue, a_tokenSize, a_hasBody, a_expected, a_entryToken, a_entryPhase, a_keptEnding, a_keptNote, a_keptValue, a_variables, a_output) (nI f) f_endValue) : wpX_nextOfCall post (f_expectedCount, f_draftLength, f_latestPlace, f_entryCount, f_working, 0, f_endNote, f_endValue, f_sayCount, f_stepCount, f_tooLong, f_latestResult, f_latestKind, a_tokenKind, a_tokenValue, a_tokenSize, a_hasBody, a_expected, a_entryToken, a_entryPhase, a_keptEnding, a_keptNote, a_keptValue, a_variables, a_output) (nI l) (nI 1) := by
  refine ⟨vp_in_nI hl (by decide), nm_r (e' := nI j) (by rw [nI_clamp (by omega), eT]) (br_f (by decide) (br_t rfl (br_t rfl ⟨vp_in_nI hj (by decide), ?_⟩)))⟩
  rw [nI_clamp (n := j) (by omega), hv]
  exact h
theorem xc_2 {w : Nat} (hl : l < 480) (h0 : f_ending = 0 → post (-1) (f_expectedCount, f_draftLength, f_latestPlace, f_entryCount, nI w, 0, f_endNote, 0, f_sayCount, f_stepCount, f_tooLong, f_latestResult, f_latestKind, a_tokenKind, a_tokenValue, a_tokenSize, a_hasBody, a_expected, a_entryToken, a_entryPhase, a_keptEnding, a_keptNote, a_keptValue, a_variables, a_output)) (h3 : f_ending = 3 → post (-1) (f_expectedCount, f_draftLength, f_latestPlace, f_entryCount, nI w, 0, f_endNote, f_endValue, f_sayCount, f_stepCount, f_tooLong, f_latestResult, f_latestKind, a_tokenKind, a_tokenValue, a_tokenSize, a_hasBody, a_expected, a_entryToken, a_entryPhase, a_keptEnding, a_keptNote, a_keptValue, a_variables, a_output)) (h4 : ¬ f_ending = 0 → ¬ f_ending = 3 → post (-1) (f_expectedCount, f_draftLength, f_latestPlace, f_entryCount, nI w, f_ending, f_endNote, f_endValue, f_sayCount, f_stepCount, f_tooLong, f_latestResult, f_latestKind, a_tokenKind, a_tokenValue, a_tokenSize, a_hasBody, a_expected, a_entryToken, a_entryPhase, a_keptEnding, a_keptNote, a_keptValue, a_variables, a_output)) : wpX_nextOfCall post (f_expectedCount, f_draftLength, f_latestPlace, f_entryCount, nI (w + 1), f_ending, f_endNote, f_endValue, f_sayCount, f_stepCount, f_tooLong, f_latestResult, f_latestKind, a_tokenKind, a_tokenValue, a_tokenSize, a_hasBody, a_expected, a_entryToken, a_entryPhase, a_keptEnding, a_keptNote, a_keptValue, a_variables, a_output) (nI l) (nI 2) :=
  ⟨vp_in_nI hl (by decide), nm_e (br_f (by decide) (br_f (by decide) (nm_r (nI_pred w) (br_c (fun z => by have := h0 z; subst z; exact this) (fun z => br_c (fun z3 => h3 z3) (fun z3 => h4 z z3))))))⟩
/-- a function begins, or can't -/
theorem xb_none {f : Nat} {a : Int32} (hf : f < 4) (hb : a_hasBody f = 0) (h : post (-1) (f_expectedCount, f_draftLength, f_latestPlace, f_entryCount, f_working, 4, 1, nI f, f_sayCount, f_stepCount, f_tooLong, f_latestResult, f_latestKind, a_tokenKind, a_tokenValue, a_tokenSize, a_hasBody, a_expected, a_entryToken, a_entryPhase, a_keptEnding, a_keptNote, a_keptValue, a_variables, a_output)) : wpX_beginFunction post (f_expectedCount, f_draftLength, f_latestPlace, f_entryCount, f_working, f_ending, f_endNote, f_endValue, f_sayCount, f_stepCount, f_tooLong, f_latestResult, f_latestKind, a_tokenKind, a_tokenValue, a_tokenSize, a_hasBody, a_expected, a_entryToken, a_entryPhase, a_keptEnding, a_keptNote, a_keptValue, a_variables, a_output) (nI f) a := by
  refine ⟨vp_in_nI hf (by decide), br_t ?_ h⟩
  rw [nI_clamp (by omega)]
  exact hb
theorem xb_over {f : Nat} {a : Int32} (hf : f < 4) (hb : a_hasBody f = 1) (h : post (-1) (f_expectedCount, f_draftLength, f_latestPlace, f_entryCount, f_working, f_ending, f_endNote, f_endValue, f_sayCount, nI 300, 1, f_latestResult, f_latestKind, a_tokenKind, a_tokenValue, a_tokenSize, a_hasBody, a_expected, a_entryToken, a_entryPhase, a_keptEnding, a_keptNote, a_keptValue, a_variables, a_output)) : wpX_beginFunction post (f_expectedCount, f_draftLength, f_latestPlace, f_entryCount, f_working, f_ending, f_endNote, f_endValue, f_sayCount, nI 300, f_tooLong, f_latestResult, f_latestKind, a_tokenKind, a_tokenValue, a_tokenSize, a_hasBody, a_expected, a_entryToken, a_entryPhase, a_keptEnding, a_keptNote, a_keptValue, a_variables, a_output) (nI f) a := by
  refine ⟨vp_in_nI hf (by decide), br_f ?_ (br_f (by decide) (br_t rfl h))⟩
  rw [nI_clamp (by omega), hb]
  decide
theorem xb_deep {f q : Nat} {a : Int32} (hf : f < 4) (hb : a_hasBody f = 1) (hq : q < 300) (h : post (-1) (f_expectedCount, f_draftLength, f_latestPlace, f_entryCount, nI 12, 4, 2, nI f, f_sayCount, nI (q + 1), f_tooLong, f_latestResult, f_latestKind, a_tokenKind, a_tokenValue, a_tokenSize, a_hasBody, a_expected, a_entryToken, a_entryPhase, a_keptEnding, a_keptNote, a_keptValue, a_variables, a_output)) : wpX_beginFunction post (f_expectedCount, f_draftLength, f_latestPlace, f_entryCount, nI 12, f_ending, f_endNote, f_endValue, f_sayCount, nI q, f_tooLong, f_latestResult, f_latestKind, a_tokenKind, a_tokenValue, a_tokenSize, a_hasBody, a_expected, a_entryToken, a_entryPhase, a_keptEnding, a_keptNote, a_keptValue, a_variables, a_output) (nI f) a := by
  refine ⟨vp_in_nI hf (by decide), br_f ?_ (br_t (nI_lt (b := 300) hq (by decide)) (nm_r (nI_1 q) (br_f (by decide) (br_f (by decide) h))))⟩
  rw [nI_clamp (by omega), hb]
  decide
theorem xb_go {f q w : Nat} {a : Int32} (hf : f < 4) (hb : a_hasBody f = 1) (hq : q < 300) (hw : w < 12) (h : post (nI (40 * f)) (f_expectedCount, f_draftLength, f_latestPlace, f_entryCount, nI (w + 1), f_ending, f_endNote, f_endValue, f_sayCount, nI (q + 1), f_tooLong, f_latestResult, f_latestKind, a_tokenKind, a_tokenValue, a_tokenSize, a_hasBody, a_expected, a_entryToken, a_entryPhase, a_keptEnding, a_keptNote, a_keptValue, vset a_variables w a, a_output)) : wpX_beginFunction post (f_expectedCount, f_draftLength, f_latestPlace, f_entryCount, nI w, f_ending, f_endNote, f_endValue, f_sayCount, nI q, f_tooLong, f_latestResult, f_latestKind, a_tokenKind, a_tokenValue, a_tokenSize, a_hasBody, a_expected, a_entryToken, a_entryPhase, a_keptEnding, a_keptNote, a_keptValue, a_variables, a_output) (nI f) a := by
  have ix : ∀ m, (nI (w + 1) - 1) * 6 + nI m = nI (6 * w + m) := fun m => (vx_ix (w := w + 1) (by omega)).trans rfl
  have Lp : ∀ d m, m + d = 6 → wX_beginFunction_57 post (nI f) a (d + 1) (nI m) f_expectedCount f_draftLength f_latestPlace f_entryCount (nI (w + 1)) f_ending f_endNote f_endValue f_sayCount (nI (q + 1)) f_tooLong f_latestResult f_latestKind a_tokenKind a_tokenValue a_tokenSize a_hasBody a_expected a_entryToken a_entryPhase a_keptEnding a_keptNote a_keptValue (vz a_variables w m) a_output := by
    intro d
    induction d with
    | zero =>
      intro m hm
      have : m = 6 := by omega
      subst this
      refine br_t (by decide) ⟨?_, nm_r (e' := vset a_variables w a) ?_ ?_⟩
      · rw [show (0 : Int32) = nI 0 from rfl, ix 0]
        exact vp_in_nI (by omega) (by decide)
      · rw [show (0 : Int32) = nI 0 from rfl, ix 0, nI_clamp (by omega)]
        rfl
      · rw [show nI f * 40 = nI (40 * f) from (pk_mul f 40).trans (congrArg nI (by omega))]
        exact h
    | succ d ih =>
      intro m hm
      refine br_f (nI_ge (b := 6) (by omega) (by decide)) ⟨?_, nm_r (e' := vz a_variables w (m + 1)) ?_ (nm_r (nI_1 m) (ih (m + 1) (by omega)))⟩
      · rw [ix m]
        exact vp_in_nI (by omega) (by decide)
      · rw [ix m, nI_clamp (by omega)]
        exact vz_s
  refine ⟨vp_in_nI hf (by decide), br_f ?_ (br_t (nI_lt (b := 300) hq (by decide)) (nm_r (nI_1 q) (br_f (by decide) (br_t (nI_lt (b := 12) hw (by decide)) (nm_r (nI_1 w) ⟨7, ?_⟩)))))⟩
  · rw [nI_clamp (by omega), hb]
    decide
  · have := Lp 6 0 (by omega)
    rw [vz_0] at this
    exact this
theorem xt_0 {j : Nat} (hl : l < 480) (eT : a_entryToken l = nI j) (h : post (nI (j + 1)) (f_expectedCount, f_draftLength, f_latestPlace, f_entryCount, f_working, f_ending, f_endNote, f_endValue, f_sayCount, f_stepCount, f_tooLong, f_latestResult, f_latestKind, a_tokenKind, a_tokenValue, a_tokenSize, a_hasBody, a_expected, a_entryToken, a_entryPhase, a_keptEnding, a_keptNote, a_keptValue, a_variables, a_output)) : wpX_nextOfTry post (f_expectedCount, f_draftLength, f_latestPlace, f_entryCount, f_working, f_ending, f_endNote, f_endValue, f_sayCount, f_stepCount, f_tooLong, f_latestResult, f_latestKind, a_tokenKind, a_tokenValue, a_tokenSize, a_hasBody, a_expected, a_entryToken, a_entryPhase, a_keptEnding, a_keptNote, a_keptValue, a_variables, a_output) (nI l) (nI 0) :=
  ⟨vp_in_nI hl (by decide), nm_r (e' := nI j) (by rw [nI_clamp (by omega), eT]) (br_t rfl (by rw [nI_1]; exact h))⟩
theorem xt_3back (hl : l < 480) (h : post (-1) (f_expectedCount, f_draftLength, f_latestPlace, f_entryCount, f_working, a_keptEnding l, a_keptNote l, a_keptValue l, f_sayCount, f_stepCount, f_tooLong, f_latestResult, f_latestKind, a_tokenKind, a_tokenValue, a_tokenSize, a_hasBody, a_expected, a_entryToken, a_entryPhase, a_keptEnding, a_keptNote, a_keptValue, a_variables, a_output)) : wpX_nextOfTry post (f_expectedCount, f_draftLength, f_latestPlace, f_entryCount, f_working, 0, f_endNote, f_endValue, f_sayCount, f_stepCount, f_tooLong, f_latestResult, f_latestKind, a_tokenKind, a_tokenValue, a_tokenSize, a_hasBody, a_expected, a_entryToken, a_entryPhase, a_keptEnding, a_keptNote, a_keptValue, a_variables, a_output) (nI l) (nI 3) := by
  have hv := vp_in_nI hl (by decide)
  refine ⟨hv, nm_e (br_f (by decide) (br_t rfl (br_t rfl ⟨hv, hv, hv, ?_⟩)))⟩
  rw [nI_clamp (n := l) (by omega)]
  exact h
theorem xt_3out (hl : l < 480) (he : ¬ f_ending = 0) (h : post (-1) (f_expectedCount, f_draftLength, f_latestPlace, f_entryCount, f_working, f_ending, f_endNote, f_endValue, f_sayCount, f_stepCount, f_tooLong, f_latestResult, f_latestKind, a_tokenKind, a_tokenValue, a_tokenSize, a_hasBody, a_expected, a_entryToken, a_entryPhase, a_keptEnding, a_keptNote, a_keptValue, a_variables, a_output)) : wpX_nextOfTry post (f_expectedCount, f_draftLength, f_latestPlace, f_entryCount, f_working, f_ending, f_endNote, f_endValue, f_sayCount, f_stepCount, f_tooLong, f_latestResult, f_latestKind, a_tokenKind, a_tokenValue, a_tokenSize, a_hasBody, a_expected, a_entryToken, a_entryPhase, a_keptEnding, a_keptNote, a_keptValue, a_variables, a_output) (nI l) (nI 3) :=
  ⟨vp_in_nI hl (by decide), nm_e (br_f (by decide) (br_t rfl (br_f he h)))⟩
theorem xt_81n {j : Nat} (hj : j < 200) (hk : tk_ok 17 (a_tokenValue j)) (hf : tk_fn (a_tokenValue j) = 0) (h : post (-1) (f_expectedCount, f_draftLength, f_latestPlace, f_entryCount, f_working, f_ending, f_endNote, f_endValue, f_sayCount, f_stepCount, f_tooLong, f_latestResult, f_latestKind, a_tokenKind, a_tokenValue, a_tokenSize, a_hasBody, a_expected, a_entryToken, a_entryPhase, a_keptEnding, a_keptNote, a_keptValue, a_variables, a_output)) : wX_nextOfTry_81 post (nI l) (nI j) f_expectedCount f_draftLength f_latestPlace f_entryCount f_working f_ending f_endNote f_endValue f_sayCount f_stepCount f_tooLong f_latestResult f_latestKind a_tokenKind a_tokenValue a_tokenSize a_hasBody a_expected a_entryToken a_entryPhase a_keptEnding a_keptNote a_keptValue a_variables a_output := by
  refine ⟨vp_in_nI hj (by decide), ?_⟩
  rw [nI_clamp (n := j) (by omega)]
  refine qx_finT hk (br_t (by rw [hf]; rfl) h)
theorem xt_81f (P : pg_T a_tokenKind a_tokenValue a_tokenSize U B LN) (hr : r < 4) (hi : i < LN r) (hk : a_tokenKind (40 * r + i) = 17) (hl : l < 480) (hf : tk_fn (a_tokenValue (40 * r + i)) = 1) (h : post (nI (40 * r + tr_ca (ro a_tokenSize r) i (1 + tk_cn (a_tokenValue (40 * r + i))))) (f_expectedCount, f_draftLength, f_latestPlace, f_entryCount, f_working, f_ending, f_endNote, f_endValue, f_sayCount, f_stepCount, f_tooLong, f_latestResult, f_latestKind, a_tokenKind, a_tokenValue, a_tokenSize, a_hasBody, a_expected, a_entryToken, upd a_entryPhase l 3, upd a_keptEnding l f_ending, upd a_keptNote l f_endNote, upd a_keptValue l f_endValue, a_variables, a_output)) : wX_nextOfTry_81 post (nI l) (nI (40 * r + i)) f_expectedCount f_draftLength f_latestPlace f_entryCount f_working f_ending f_endNote f_endValue f_sayCount f_stepCount f_tooLong f_latestResult f_latestKind a_tokenKind a_tokenValue a_tokenSize a_hasBody a_expected a_entryToken a_entryPhase a_keptEnding a_keptNote a_keptValue a_variables a_output := by
  obtain ⟨hok, hj, hi40⟩ := pg_tok P hr hi
  have hv := vp_in_nI hl (by decide)
  have hn : tk_np (a_tokenKind (40 * r + i)) (a_tokenValue (40 * r + i)) = 1 + tk_cn (a_tokenValue (40 * r + i)) + 1 := by
    rw [hk]
    unfold tk_np
    rw [if_pos rfl, hf]
  have h4 := tk_np_le hok
  refine ⟨vp_in_nI (by omega) (by decide), ?_⟩
  rw [nI_clamp (n := 40 * r + i) (by omega)]
  refine qx_finT (hk ▸ hok) (br_f (by rw [hf]; decide) ⟨hv, nm_r (by rw [nI_clamp (by omega)]) ⟨hv, nm_r (by rw [nI_clamp (by omega)]) ⟨hv, nm_r (by rw [nI_clamp (by omega)]) ⟨hv, nm_r (e' := upd a_entryPhase l 3) (by rw [nI_clamp (by omega)]) (qx_parts (by omega) hok (nm_r (e' := nI (1 + tk_cn (a_tokenValue (40 * r + i)))) (by rw [hn]; exact nI_pred _) (qx_partAt (tr_pa P hr hi (by omega)) (by omega) h)))⟩⟩⟩⟩)
theorem xt_1 {j : Nat} (hl : l < 480) (eT : a_entryToken l = nI j) (he : ¬ f_ending = 4) (h : wX_nextOfTry_81 post (nI l) (nI j) f_expectedCount f_draftLength f_latestPlace f_entryCount f_working f_ending f_endNote f_endValue f_sayCount f_stepCount f_tooLong f_latestResult f_latestKind a_tokenKind a_tokenValue a_tokenSize a_hasBody a_expected a_entryToken a_entryPhase a_keptEnding a_keptNote a_keptValue a_variables a_output) : wpX_nextOfTry post (f_expectedCount, f_draftLength, f_latestPlace, f_entryCount, f_working, f_ending, f_endNote, f_endValue, f_sayCount, f_stepCount, f_tooLong, f_latestResult, f_latestKind, a_tokenKind, a_tokenValue, a_tokenSize, a_hasBody, a_expected, a_entryToken, a_entryPhase, a_keptEnding, a_keptNote, a_keptValue, a_variables, a_output) (nI l) (nI 1) :=
  ⟨vp_in_nI hl (by decide), nm_r (e' := nI j) (by rw [nI_clamp (by omega), eT]) (br_f (by decide) (br_f (by decide) (br_t rfl (br_f he h))))⟩
theorem xt_2 {j : Nat} (hl : l < 480) (eT : a_entryToken l = nI j) (h : wX_nextOfTry_81 post (nI l) (nI j) f_expectedCount f_draftLength f_latestPlace f_entryCount f_working f_ending f_endNote f_endValue f_sayCount f_stepCount f_tooLong f_latestResult f_latestKind a_tokenKind a_tokenValue a_tokenSize a_hasBody a_expected a_entryToken a_entryPhase a_keptEnding a_keptNote a_keptValue a_variables a_output) : wpX_nextOfTry post (f_expectedCount, f_draftLength, f_latestPlace, f_entryCount, f_working, f_ending, f_endNote, f_endValue, f_sayCount, f_stepCount, f_tooLong, f_latestResult, f_latestKind, a_tokenKind, a_tokenValue, a_tokenSize, a_hasBody, a_expected, a_entryToken, a_entryPhase, a_keptEnding, a_keptNote, a_keptValue, a_variables, a_output) (nI l) (nI 2) :=
  ⟨vp_in_nI hl (by decide), nm_r (e' := nI j) (by rw [nI_clamp (by omega), eT]) (br_f (by decide) (br_f (by decide) (br_f (by decide) h)))⟩
/-- which catch takes the exception -/
theorem xt_for {post : Int32 → Prop} (P : pg_T a_tokenKind a_tokenValue a_tokenSize U B LN) (hr : r < 4) (hi : i < LN r) (hk : a_tokenKind (40 * r + i) = 17) (h1 : ∀ c, 1 ≤ c → c ≤ tk_cn (a_tokenValue (40 * r + i)) → ct_m a_tokenValue a_tokenSize r i f_endNote c → (∀ b, 1 ≤ b → b < c → ¬ ct_m a_tokenValue a_tokenSize r i f_endNote b) → post (nI (40 * r + tr_ca (ro a_tokenSize r) i c))) (h0 : (∀ b, 1 ≤ b → b ≤ tk_cn (a_tokenValue (40 * r + i)) → ¬ ct_m a_tokenValue a_tokenSize r i f_endNote b) → post (-1)) : wpX_catchFor post (f_expectedCount, f_draftLength, f_latestPlace, f_entryCount, f_working, f_ending, f_endNote, f_endValue, f_sayCount, f_stepCount, f_tooLong, f_latestResult, f_latestKind, a_tokenKind, a_tokenValue, a_tokenSize, a_hasBody, a_expected, a_entryToken, a_entryPhase, a_keptEnding, a_keptNote, a_keptValue, a_variables, a_output) (nI (40 * r + i)) := by
  obtain ⟨hok, hj, hi40⟩ := pg_tok P hr hi
  have hc2 : tk_cn (a_tokenValue (40 * r + i)) ≤ 2 := by
    unfold tk_cn
    repeat' split
    all_goals omega
  have Lp : ∀ d c, 1 ≤ c → c + d = tk_cn (a_tokenValue (40 * r + i)) + 1 → (∀ b, 1 ≤ b → b < c → ¬ ct_m a_tokenValue a_tokenSize r i f_endNote b) → wX_catchFor_15 post (nI (40 * r + i)) (nI (tk_cn (a_tokenValue (40 * r + i)))) f_expectedCount f_draftLength f_latestPlace f_entryCount f_working f_ending f_endNote f_endValue f_sayCount f_stepCount f_tooLong f_latestResult f_latestKind a_tokenKind a_tokenValue a_tokenSize a_hasBody a_expected a_entryToken a_entryPhase a_keptEnding a_keptNote a_keptValue a_variables a_output (d + 1) (nI c) := by
    intro d
    induction d with
    | zero =>
      intro c hc hd hn
      exact br_t (nI_lt (by omega) (by omega)) (h0 (fun b b1 b2 => hn b b1 (by omega)))
    | succ d ih =>
      intro c hc hd hn
      obtain ⟨t1, t2, t3, t4, t5, t6, t7, t8, t9, t10⟩ := tr_catch P hr hi hk hc (by omega)
      have hL := (P r hr (by omega)).2.1
      refine br_f (nI_nlt (by omega) (by omega)) (qx_partAt (tr_pa P hr hi (Nat.le_of_lt t1)) (by omega) ⟨vp_in_nI (by show 40 * r + tr_ca (ro a_tokenSize r) i c < 200; omega) (by decide), ?_⟩)
      rw [nI_clamp (n := 40 * r + tr_ca (fun i => a_tokenSize (40 * r + i)) i c) (by show 40 * r + tr_ca (ro a_tokenSize r) i c < _; omega)]
      show wpX_caughtKind _ _ (a_tokenValue (40 * r + tr_ca (ro a_tokenSize r) i c))
      refine br_c (fun z => h1 c hc (by omega) (Or.inl z) hn) (fun z => br_c (fun z2 => h1 c hc (by omega) (Or.inr z2) hn) (fun z2 => nm_r (nI_1 c) (ih (c + 1) (by omega) (by omega) (fun b b1 b2 => ?_))))
      by_cases e : b = c
      · subst e
        exact fun q => q.elim z z2
      · exact hn b b1 (by omega)
  refine ⟨vp_in_nI (by omega) (by decide), ?_⟩
  rw [nI_clamp (n := 40 * r + i) (by omega)]
  exact qx_catT (hk ▸ hok) ⟨tk_cn (a_tokenValue (40 * r + i)) + 1, Lp _ 1 (by omega) (by omega) (fun b b1 b2 => by omega)⟩
theorem xt_hand {w : Nat} (P : pg_T a_tokenKind a_tokenValue a_tokenSize U B LN) (hr : r < 4) (hi : i < LN r) (hk : a_tokenKind (40 * r + i) = 17) (hl : l < 480) (eT : a_entryToken l = nI (40 * r + i)) (w1 : 1 ≤ w) (w12 : w ≤ 12) (h1 : ∀ c m, 1 ≤ c → c ≤ tk_cn (a_tokenValue (40 * r + i)) → ct_m a_tokenValue a_tokenSize r i f_endNote c → (∀ b, 1 ≤ b → b < c → ¬ ct_m a_tokenValue a_tokenSize r i f_endNote b) → a_tokenValue (40 * r + tr_ca (ro a_tokenSize r) i c) = nI m → m < 48 → post (nI (40 * r + (tr_ca (ro a_tokenSize r) i c + 1))) (f_expectedCount, f_draftLength, f_latestPlace, f_entryCount, nI w, 4, f_endNote, f_endValue, f_sayCount, f_stepCount, f_tooLong, f_latestResult, f_latestKind, a_tokenKind, a_tokenValue, a_tokenSize, a_hasBody, a_expected, a_entryToken, a_entryPhase, a_keptEnding, a_keptNote, a_keptValue, upd a_variables (6 * (w - 1) + m / 8) f_endValue, a_output)) (h0 : (∀ b, 1 ≤ b → b ≤ tk_cn (a_tokenValue (40 * r + i)) → ¬ ct_m a_tokenValue a_tokenSize r i f_endNote b) → wX_nextOfTry_81 post (nI l) (nI (40 * r + i)) f_expectedCount f_draftLength f_latestPlace f_entryCount (nI w) 4 f_endNote f_endValue f_sayCount f_stepCount f_tooLong f_latestResult f_latestKind a_tokenKind a_tokenValue a_tokenSize a_hasBody a_expected a_entryToken a_entryPhase a_keptEnding a_keptNote a_keptValue a_variables a_output) : wpX_nextOfTry post (f_expectedCount, f_draftLength, f_latestPlace, f_entryCount, nI w, 4, f_endNote, f_endValue, f_sayCount, f_stepCount, f_tooLong, f_latestResult, f_latestKind, a_tokenKind, a_tokenValue, a_tokenSize, a_hasBody, a_expected, a_entryToken, a_entryPhase, a_keptEnding, a_keptNote, a_keptValue, a_variables, a_output) (nI l) (nI 1) := by
  refine ⟨vp_in_nI hl (by decide), nm_r (e' := nI (40 * r + i)) (by rw [nI_clamp (by omega), eT]) (br_f (by decide) (br_f (by decide) (br_t rfl (br_t rfl (xt_for P hr hi hk (fun c c1 c2 cm cf => ?_) (fun hn => br_t rfl (h0 hn)))))))⟩
  obtain ⟨t1, t2, t3, t4, t5, t6, t7, t8, t9, t10⟩ := tr_catch P hr hi hk c1 c2
  have hL := (P r hr (by omega)).2.1
  have hok := ((P r hr (by omega)).2.2.2 _ t2).1
  have hok' : tk_ok (a_tokenKind (40 * r + tr_ca (ro a_tokenSize r) i c)) (a_tokenValue (40 * r + tr_ca (ro a_tokenSize r) i c)) := hok
  rw [t3] at hok'
  obtain ⟨m, hm, em, _⟩ := tk_cat hok'
  have g := h1 c m c1 c2 cm cf em hm
  refine br_f (qb_ne_m1 (by omega)) ⟨vp_in_nI (by omega) (by decide), ?_⟩
  rw [nI_clamp (n := 40 * r + tr_ca (ro a_tokenSize r) i c) (by omega), em]
  have es : nI m >>> ((3 : Int32) &&& 31) = nI (m / 8) := pk_shrN (by omega) _ 3 (by decide)
  unfold wpX_caughtVariable
  dsimp only
  rw [es]
  unfold wpX_setVariable
  dsimp only
  refine ⟨?_, nm_r (e' := upd a_variables (6 * (w - 1) + m / 8) f_endValue) ?_ ?_⟩
  · rw [vx_ix w1]
    exact vp_in_nI (by omega) (by decide)
  · rw [vx_ix w1, nI_clamp (by omega)]
  · rw [nI_1]
    exact g
end
