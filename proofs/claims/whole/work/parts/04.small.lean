section
variable {f_expectedCount f_draftLength f_latestPlace f_entryCount f_working f_ending f_endNote f_endValue f_sayCount f_stepCount f_tooLong f_latestResult f_latestKind : Int32} {a_tokenKind a_tokenValue a_tokenSize a_hasBody a_expected a_entryToken a_entryPhase a_keptEnding a_keptNote a_keptValue a_variables a_output : Nat → Int32} {post : Int32 → Prop}
theorem qx_isF {j : Nat} (hj : j < 4) (h : post 1) : wpX_isFunction post (f_expectedCount, f_draftLength, f_latestPlace, f_entryCount, f_working, f_ending, f_endNote, f_endValue, f_sayCount, f_stepCount, f_tooLong, f_latestResult, f_latestKind, a_tokenKind, a_tokenValue, a_tokenSize, a_hasBody, a_expected, a_entryToken, a_entryPhase, a_keptEnding, a_keptNote, a_keptValue, a_variables, a_output) (nI j) := by
  unfold wpX_isFunction
  exact br_f (nI_pos (by omega)) (br_f (nI_ge (b := 4) hj (by decide)) ⟨qb_nr1, h⟩)
theorem qx_isN {x : Int32} (hx : x < 0 ∨ (¬ x < 0 ∧ nI 4 ≤ x)) (h : post 0) : wpX_isFunction post (f_expectedCount, f_draftLength, f_latestPlace, f_entryCount, f_working, f_ending, f_endNote, f_endValue, f_sayCount, f_stepCount, f_tooLong, f_latestResult, f_latestKind, a_tokenKind, a_tokenValue, a_tokenSize, a_hasBody, a_expected, a_entryToken, a_entryPhase, a_keptEnding, a_keptNote, a_keptValue, a_variables, a_output) x := by
  unfold wpX_isFunction
  rcases hx with hx | ⟨hx, hy⟩
  · exact br_t hx ⟨qb_nr0, h⟩
  · exact br_f hx (br_t hy ⟨qb_nr0, h⟩)
theorem qx_sort {k v : Int32} (hk : tk_ok k v) (h : post (nI (tk_so k + 1))) : wpX_sortOf post (f_expectedCount, f_draftLength, f_latestPlace, f_entryCount, f_working, f_ending, f_endNote, f_endValue, f_sayCount, f_stepCount, f_tooLong, f_latestResult, f_latestKind, a_tokenKind, a_tokenValue, a_tokenSize, a_hasBody, a_expected, a_entryToken, a_entryPhase, a_keptEnding, a_keptNote, a_keptValue, a_variables, a_output) k := by
  rcases tk_kinds hk with rfl | rfl | rfl | rfl | rfl | rfl | rfl | rfl | rfl | rfl | rfl | rfl | rfl | rfl | rfl | rfl | rfl | rfl | rfl | rfl | rfl
  all_goals (repeat (first | refine br_t (by decide) ?_ | refine br_f (by decide) ?_)); exact (congrArg post (by decide)).mpr h
theorem qx_finT {v : Int32} (hk : tk_ok 17 v) (h : post (nI (tk_fn v))) : wpX_finallyIn post (f_expectedCount, f_draftLength, f_latestPlace, f_entryCount, f_working, f_ending, f_endNote, f_endValue, f_sayCount, f_stepCount, f_tooLong, f_latestResult, f_latestKind, a_tokenKind, a_tokenValue, a_tokenSize, a_hasBody, a_expected, a_entryToken, a_entryPhase, a_keptEnding, a_keptNote, a_keptValue, a_variables, a_output) 17 v := by
  refine br_t rfl ?_
  rcases tk_try hk with rfl | rfl | rfl | rfl | rfl
  all_goals exact (congrArg post (by decide)).mpr h
theorem qx_catT {v : Int32} (hk : tk_ok 17 v) (h : post (nI (tk_cn v))) : wpX_catchesIn post (f_expectedCount, f_draftLength, f_latestPlace, f_entryCount, f_working, f_ending, f_endNote, f_endValue, f_sayCount, f_stepCount, f_tooLong, f_latestResult, f_latestKind, a_tokenKind, a_tokenValue, a_tokenSize, a_hasBody, a_expected, a_entryToken, a_entryPhase, a_keptEnding, a_keptNote, a_keptValue, a_variables, a_output) 17 v := by
  refine br_t rfl ?_
  rcases tk_try hk with rfl | rfl | rfl | rfl | rfl
  all_goals exact (congrArg post (by decide)).mpr h
/-- the expressions, the statements ahead of any catch -/
def tk_xn (k : Int32) : Nat := if k = 2 ∨ k = 3 ∨ k = 4 ∨ k = 5 ∨ k = 6 then 2 else if k = 7 ∨ k = 8 ∨ k = 10 ∨ k = 11 ∨ k = 12 ∨ k = 13 ∨ k = 16 ∨ k = 21 then 1 else 0
def tk_sn (k : Int32) : Nat := if k = 12 ∨ k = 14 then 2 else if k = 13 ∨ k = 17 ∨ k = 18 then 1 else 0
def tk_c (k v : Int32) : Nat := if k = 17 then tk_cn v else 0
def tk_f (k v : Int32) : Nat := if k = 17 then tk_fn v else 0
theorem tk_np_sum {k v : Int32} (hk : tk_ok k v) : tk_np k v = tk_xn k + tk_sn k + tk_c k v + tk_f k v := by
  rcases tk_kinds hk with rfl | rfl | rfl | rfl | rfl | rfl | rfl | rfl | rfl | rfl | rfl | rfl | rfl | rfl | rfl | rfl | rfl | rfl | rfl | rfl | rfl
  all_goals first | rfl | (rcases tk_try hk with rfl | rfl | rfl | rfl | rfl <;> decide)
theorem qx_expr {k v : Int32} (hk : tk_ok k v) (h : post (nI (tk_xn k))) : wpX_expressionsIn post (f_expectedCount, f_draftLength, f_latestPlace, f_entryCount, f_working, f_ending, f_endNote, f_endValue, f_sayCount, f_stepCount, f_tooLong, f_latestResult, f_latestKind, a_tokenKind, a_tokenValue, a_tokenSize, a_hasBody, a_expected, a_entryToken, a_entryPhase, a_keptEnding, a_keptNote, a_keptValue, a_variables, a_output) k := by
  rcases tk_kinds hk with rfl | rfl | rfl | rfl | rfl | rfl | rfl | rfl | rfl | rfl | rfl | rfl | rfl | rfl | rfl | rfl | rfl | rfl | rfl | rfl | rfl
  all_goals (repeat (first | refine br_t (by decide) ?_ | refine br_f (by decide) ?_)); exact (congrArg post (by decide)).mpr h
theorem qx_stat {k v : Int32} (hk : tk_ok k v) (h : post (nI (tk_sn k))) : wpX_statementsIn post (f_expectedCount, f_draftLength, f_latestPlace, f_entryCount, f_working, f_ending, f_endNote, f_endValue, f_sayCount, f_stepCount, f_tooLong, f_latestResult, f_latestKind, a_tokenKind, a_tokenValue, a_tokenSize, a_hasBody, a_expected, a_entryToken, a_entryPhase, a_keptEnding, a_keptNote, a_keptValue, a_variables, a_output) k := by
  rcases tk_kinds hk with rfl | rfl | rfl | rfl | rfl | rfl | rfl | rfl | rfl | rfl | rfl | rfl | rfl | rfl | rfl | rfl | rfl | rfl | rfl | rfl | rfl
  all_goals (repeat (first | refine br_t (by decide) ?_ | refine br_f (by decide) ?_)); exact (congrArg post (by decide)).mpr h
theorem qx_fin {k v : Int32} (hk : tk_ok k v) (h : post (nI (tk_f k v))) : wpX_finallyIn post (f_expectedCount, f_draftLength, f_latestPlace, f_entryCount, f_working, f_ending, f_endNote, f_endValue, f_sayCount, f_stepCount, f_tooLong, f_latestResult, f_latestKind, a_tokenKind, a_tokenValue, a_tokenSize, a_hasBody, a_expected, a_entryToken, a_entryPhase, a_keptEnding, a_keptNote, a_keptValue, a_variables, a_output) k v := by
  by_cases e : k = 17
  · subst e
    exact qx_finT hk h
  · refine br_f e ?_
    rw [tk_f, if_neg e] at h
    exact h
theorem qx_cat {k v : Int32} (hk : tk_ok k v) (h : post (nI (tk_c k v))) : wpX_catchesIn post (f_expectedCount, f_draftLength, f_latestPlace, f_entryCount, f_working, f_ending, f_endNote, f_endValue, f_sayCount, f_stepCount, f_tooLong, f_latestResult, f_latestKind, a_tokenKind, a_tokenValue, a_tokenSize, a_hasBody, a_expected, a_entryToken, a_entryPhase, a_keptEnding, a_keptNote, a_keptValue, a_variables, a_output) k v := by
  by_cases e : k = 17
  · subst e
    exact qx_catT hk h
  · refine br_f e ?_
    rw [tk_c, if_neg e] at h
    exact h
theorem qx_parts {j : Nat} (hj : j < 200) (hk : tk_ok (a_tokenKind j) (a_tokenValue j)) (h : post (nI (tk_np (a_tokenKind j) (a_tokenValue j)))) : wpX_partsIn post (f_expectedCount, f_draftLength, f_latestPlace, f_entryCount, f_working, f_ending, f_endNote, f_endValue, f_sayCount, f_stepCount, f_tooLong, f_latestResult, f_latestKind, a_tokenKind, a_tokenValue, a_tokenSize, a_hasBody, a_expected, a_entryToken, a_entryPhase, a_keptEnding, a_keptNote, a_keptValue, a_variables, a_output) (nI j) := by
  have ej : (nI j).toNatClampNeg = j := nI_clamp (by omega)
  refine ⟨vp_in_nI hj (by decide), nm_r (by rw [ej]) ⟨vp_in_nI hj (by decide), nm_r (by rw [ej]) ?_⟩⟩
  refine qx_expr hk (qx_stat hk (qx_cat hk (qx_fin hk ?_)))
  rw [nI_add, nI_add, nI_add, ← tk_np_sum hk]
  exact h
theorem qx_partAt {b i o : Nat} (H : ∀ q, q < o → ∃ s, b + tr_ca (fun i => a_tokenSize (b + i)) i q < 200 ∧ a_tokenSize (b + tr_ca (fun i => a_tokenSize (b + i)) i q) = nI s ∧ s ≤ 200) (ho : o < 1000) (h : post (nI (b + tr_ca (fun i => a_tokenSize (b + i)) i o))) : wpX_partAt post (f_expectedCount, f_draftLength, f_latestPlace, f_entryCount, f_working, f_ending, f_endNote, f_endValue, f_sayCount, f_stepCount, f_tooLong, f_latestResult, f_latestKind, a_tokenKind, a_tokenValue, a_tokenSize, a_hasBody, a_expected, a_entryToken, a_entryPhase, a_keptEnding, a_keptNote, a_keptValue, a_variables, a_output) (nI (b + i)) (nI o) := by
  have L : ∀ d q, q + d = o → wX_partAt_7 post (nI o) f_expectedCount f_draftLength f_latestPlace f_entryCount f_working f_ending f_endNote f_endValue f_sayCount f_stepCount f_tooLong f_latestResult f_latestKind a_tokenKind a_tokenValue a_tokenSize a_hasBody a_expected a_entryToken a_entryPhase a_keptEnding a_keptNote a_keptValue a_variables a_output (d + 1) (nI (b + tr_ca (fun i => a_tokenSize (b + i)) i q)) (nI q) := by
    intro d
    induction d with
    | zero =>
      intro q hq
      have : q = o := by omega
      subst this
      exact br_t (nI_le (Nat.le_refl _) (by omega)) h
    | succ d ih =>
      intro q hq
      obtain ⟨s, h1, h2, h3⟩ := H q (by omega)
      refine br_f (nI_ge (by omega) (by omega)) (br_f (nI_ge (b := 200) h1 (by decide)) ⟨vp_in_nI h1 (by decide), nm_r ?_ (nm_r (nI_1 q) (ih (q + 1) (by omega)))⟩)
      rw [nI_clamp (by omega), h2, nI_add]
      refine congrArg nI ?_
      show _ = b + (_ + (a_tokenSize _).toNatClampNeg)
      rw [h2, nI_clamp (by omega)]
      omega
  refine nm_r (e' := nI (b + tr_ca (fun i => a_tokenSize (b + i)) i 0)) (nI_1 _) ⟨o + 1, ?_⟩
  exact L o 0 (by omega)
end
section
variable {post : Int32 → Prop}
theorem qy_outF {j n : Nat} (hj : j < n) (hn : n < 2 ^ 31) (h : post 0) : wpY_out post (nI j) (nI n) := br_f (nI_pos (by omega)) (br_t (nI_lt hj hn) h)
theorem qy_outN {x : Int32} {n : Nat} (hn : n < 2 ^ 31) (hx : x < 0 ∨ (¬ x < 0 ∧ nI n ≤ x)) (h : post 1) : wpY_out post x (nI n) := by
  rcases hx with hx | ⟨hx, hy⟩
  · exact br_t hx h
  · exact br_f hx (br_f (Int32.not_lt.mpr hy) h)
theorem qy_sort {k v : Int32} (hk : tk_ok k v) (h : post (nI (tk_so k))) : wpY_sort post k := by
  rcases tk_kinds hk with rfl | rfl | rfl | rfl | rfl | rfl | rfl | rfl | rfl | rfl | rfl | rfl | rfl | rfl | rfl | rfl | rfl | rfl | rfl | rfl | rfl
  all_goals (repeat (first | refine br_t (by decide) ?_ | refine br_f (by decide) ?_)); exact (congrArg post (by decide)).mpr h
theorem qy_op {k v : Int32} (hk : tk_ok k v) (h : post (nI (tk_np k v))) : wpY_operands post k v := by
  rcases tk_kinds hk with rfl | rfl | rfl | rfl | rfl | rfl | rfl | rfl | rfl | rfl | rfl | rfl | rfl | rfl | rfl | rfl | rfl | rfl | rfl | rfl | rfl
  all_goals first | ((repeat (first | refine br_t (by decide) ?_ | refine br_f (by decide) ?_)); first | exact h | exact (congrArg post (by decide)).mpr h) | (rcases tk_try hk with rfl | rfl | rfl | rfl | rfl <;> ((repeat (first | refine br_t (by decide) ?_ | refine br_f (by decide) ?_)); first | exact h | exact (congrArg post (by decide)).mpr h))
theorem qy_want {k v : Int32} {o : Nat} (hk : tk_ok k v) (ho : o < 4) (h : post (nI (tk_wt k v o))) : wpY_wanted post k v (nI o) := by
  have : o = 0 ∨ o = 1 ∨ o = 2 ∨ o = 3 := by omega
  rcases this with rfl | rfl | rfl | rfl <;> rcases tk_kinds hk with rfl | rfl | rfl | rfl | rfl | rfl | rfl | rfl | rfl | rfl | rfl | rfl | rfl | rfl | rfl | rfl | rfl | rfl | rfl | rfl | rfl
  all_goals first | ((repeat (first | refine br_t (by decide) ?_ | refine br_f (by decide) ?_)); first | exact h | exact (congrArg post (by decide)).mpr h) | (rcases tk_try hk with rfl | rfl | rfl | rfl | rfl <;> ((repeat (first | refine br_t (by decide) ?_ | refine br_f (by decide) ?_)); first | exact h | exact (congrArg post (by decide)).mpr h))
end
