/-- Y's kinds and values of the bodies are X's -/
def pg_E (K V KY VY : Nat → Int32) (LN : Nat → Nat) : Prop := ∀ r, r < 4 → ∀ i, i < LN r → KY (40 * r + i) = K (40 * r + i) ∧ VY (40 * r + i) = V (40 * r + i)
theorem tk_ok_x {k v : Int32} (h : tk_ok k v) (hs : tk_so k = 0) : tk_ok k 0 ∧ tk_np k 0 = tk_np k v := by
  have hk := tk_kinds h
  rcases hk with rfl | rfl | rfl | rfl | rfl | rfl | rfl | rfl | rfl | rfl | rfl | rfl | rfl | rfl | rfl | rfl | rfl | rfl | rfl | rfl | rfl
  all_goals first
    | exact absurd hs (by decide)
    | exact ⟨tk_mk_free (n := 0) (by decide) (by decide), rfl⟩
    | exact ⟨tk_mk6 (n := 1) (m := 0) (by decide) (by decide), rfl⟩
    | exact ⟨tk_mk_free (n := 2) (by decide) (by decide), rfl⟩
    | exact ⟨tk_mk_free (n := 3) (by decide) (by decide), rfl⟩
    | exact ⟨tk_mk_free (n := 4) (by decide) (by decide), rfl⟩
    | exact ⟨tk_mk_free (n := 5) (by decide) (by decide), rfl⟩
    | exact ⟨tk_mk_free (n := 6) (by decide) (by decide), rfl⟩
    | exact ⟨tk_mk_free (n := 7) (by decide) (by decide), rfl⟩
    | exact ⟨tk_mk4 (n := 8) (m := 0) (by decide) (by decide), rfl⟩
theorem vy_ix {w m : Nat} (h1 : 1 ≤ w) : 6 * (nI w - 1) + nI m = nI (6 * (w - 1) + m) := by
  obtain ⟨x, rfl⟩ : ∃ x, w = x + 1 := ⟨w - 1, by omega⟩
  rw [nI_pred, show (6 : Int32) * nI x = nI (6 * x) from pk_mul 6 x, nI_add]
  rfl
section
variable {f_place f_top f_held f_depth f_ended f_endTarget f_endKind f_endWorth f_steps f_says f_result f_thrown f_over : Int32} {a_kind a_up a_length a_value a_below a_open a_token a_height a_target a_phase a_how a_kinds a_worth a_values a_variables a_begun a_output : Nat → Int32} {post : SY → Prop} {T j y r i : Nat} {K V Z : Nat → Int32} {LN : Nat → Nat}
theorem yw_x {k : Int32} (hT : T < 600) (hj : j < 200) (eT : a_token T = nI j) (eK : a_kind j = k) (eP : a_phase T = nI y) (h9 : ¬ 9 ≤ k) (h : wpY_expression post (f_place, nI (T + 1), f_held, f_depth, f_ended, f_endTarget, f_endKind, f_endWorth, f_steps, f_says, f_result, f_thrown, f_over, a_kind, a_up, a_length, a_value, a_below, a_open, a_token, a_height, a_target, a_phase, a_how, a_kinds, a_worth, a_values, a_variables, a_begun, a_output) (nI j) k (nI y)) : wpY_work post (f_place, nI (T + 1), f_held, f_depth, f_ended, f_endTarget, f_endKind, f_endWorth, f_steps, f_says, f_result, f_thrown, f_over, a_kind, a_up, a_length, a_value, a_below, a_open, a_token, a_height, a_target, a_phase, a_how, a_kinds, a_worth, a_values, a_variables, a_begun, a_output) := by
  have e : nI (T + 1) - 1 = nI T := nI_pred T
  refine ⟨by rw [e]; exact vp_in_nI hT (by decide), nm_r (e' := nI j) (by rw [e, nI_clamp (by omega), eT]) ⟨vp_in_nI hj (by decide), nm_r (e' := k) (by rw [nI_clamp (by omega), eK]) ⟨by rw [e]; exact vp_in_nI hT (by decide), nm_r (e' := nI y) (by rw [e, nI_clamp (by omega), eP]) (br_f h9 h)⟩⟩⟩
theorem yw_t (hT : T < 600) (hj : j < 200) (eT : a_token T = nI j) (eK : a_kind j = 17) (eP : a_phase T = nI y) (h : wpY_attempt post (f_place, nI (T + 1), f_held, f_depth, f_ended, f_endTarget, f_endKind, f_endWorth, f_steps, f_says, f_result, f_thrown, f_over, a_kind, a_up, a_length, a_value, a_below, a_open, a_token, a_height, a_target, a_phase, a_how, a_kinds, a_worth, a_values, a_variables, a_begun, a_output) (nI j) (nI y)) : wpY_work post (f_place, nI (T + 1), f_held, f_depth, f_ended, f_endTarget, f_endKind, f_endWorth, f_steps, f_says, f_result, f_thrown, f_over, a_kind, a_up, a_length, a_value, a_below, a_open, a_token, a_height, a_target, a_phase, a_how, a_kinds, a_worth, a_values, a_variables, a_begun, a_output) := by
  have e : nI (T + 1) - 1 = nI T := nI_pred T
  refine ⟨by rw [e]; exact vp_in_nI hT (by decide), nm_r (e' := nI j) (by rw [e, nI_clamp (by omega), eT]) ⟨vp_in_nI hj (by decide), nm_r (e' := 17) (by rw [nI_clamp (by omega), eK]) ⟨by rw [e]; exact vp_in_nI hT (by decide), nm_r (e' := nI y) (by rw [e, nI_clamp (by omega), eP]) (br_t (by decide) (br_t rfl h))⟩⟩⟩
theorem yw_w (hT : T < 600) (hj : j < 200) (eT : a_token T = nI j) (eK : a_kind j = 13) (eP : a_phase T = nI y) (h : wpY_repeat post (f_place, nI (T + 1), f_held, f_depth, f_ended, f_endTarget, f_endKind, f_endWorth, f_steps, f_says, f_result, f_thrown, f_over, a_kind, a_up, a_length, a_value, a_below, a_open, a_token, a_height, a_target, a_phase, a_how, a_kinds, a_worth, a_values, a_variables, a_begun, a_output) (nI j) (nI y)) : wpY_work post (f_place, nI (T + 1), f_held, f_depth, f_ended, f_endTarget, f_endKind, f_endWorth, f_steps, f_says, f_result, f_thrown, f_over, a_kind, a_up, a_length, a_value, a_below, a_open, a_token, a_height, a_target, a_phase, a_how, a_kinds, a_worth, a_values, a_variables, a_begun, a_output) := by
  have e : nI (T + 1) - 1 = nI T := nI_pred T
  refine ⟨by rw [e]; exact vp_in_nI hT (by decide), nm_r (e' := nI j) (by rw [e, nI_clamp (by omega), eT]) ⟨vp_in_nI hj (by decide), nm_r (e' := 13) (by rw [nI_clamp (by omega), eK]) ⟨by rw [e]; exact vp_in_nI hT (by decide), nm_r (e' := nI y) (by rw [e, nI_clamp (by omega), eP]) (br_t (by decide) (br_f (by decide) (br_t rfl h)))⟩⟩⟩
theorem yw_s {k : Int32} (hT : T < 600) (hj : j < 200) (eT : a_token T = nI j) (eK : a_kind j = k) (eP : a_phase T = nI y) (h9 : 9 ≤ k) (h17 : ¬ k = 17) (h13 : ¬ k = 13) (h : wpY_statement post (f_place, nI (T + 1), f_held, f_depth, f_ended, f_endTarget, f_endKind, f_endWorth, f_steps, f_says, f_result, f_thrown, f_over, a_kind, a_up, a_length, a_value, a_below, a_open, a_token, a_height, a_target, a_phase, a_how, a_kinds, a_worth, a_values, a_variables, a_begun, a_output) (nI j) k (nI y)) : wpY_work post (f_place, nI (T + 1), f_held, f_depth, f_ended, f_endTarget, f_endKind, f_endWorth, f_steps, f_says, f_result, f_thrown, f_over, a_kind, a_up, a_length, a_value, a_below, a_open, a_token, a_height, a_target, a_phase, a_how, a_kinds, a_worth, a_values, a_variables, a_begun, a_output) := by
  have e : nI (T + 1) - 1 = nI T := nI_pred T
  refine ⟨by rw [e]; exact vp_in_nI hT (by decide), nm_r (e' := nI j) (by rw [e, nI_clamp (by omega), eT]) ⟨vp_in_nI hj (by decide), nm_r (e' := k) (by rw [nI_clamp (by omega), eK]) ⟨by rw [e]; exact vp_in_nI hT (by decide), nm_r (e' := nI y) (by rw [e, nI_clamp (by omega), eP]) (br_t h9 (br_f h17 (br_f h13 h)))⟩⟩⟩
/-- a part begins -/
theorem yo_begin {jj hh : Nat} (hT : T < 600) (hj : jj < 200) (hh7 : hh < 700) (h : post (f_place, nI (T + 1), nI hh, f_depth, 0, f_endTarget, f_endKind, f_endWorth, f_steps, f_says, f_result, f_thrown, f_over, a_kind, a_up, a_length, a_value, a_below, a_open, upd a_token T (nI jj), upd a_height T (nI hh), a_target, upd a_phase T 0, a_how, a_kinds, a_worth, a_values, a_variables, a_begun, a_output)) : wpY_begin post (f_place, nI T, nI hh, f_depth, f_ended, f_endTarget, f_endKind, f_endWorth, f_steps, f_says, f_result, f_thrown, f_over, a_kind, a_up, a_length, a_value, a_below, a_open, a_token, a_height, a_target, a_phase, a_how, a_kinds, a_worth, a_values, a_variables, a_begun, a_output) (nI jj) := by
  have hv := vp_in_nI hT (by decide)
  refine ⟨hv, nm_r (e' := upd a_token T (nI jj)) (by rw [nI_clamp (by omega), qb_ns16 (by omega)]) ⟨hv, nm_r (e' := upd a_phase T 0) (by rw [nI_clamp (by omega)]; exact congrArg (upd a_phase T) (qb_nb (n := 0) (by decide))) (nm_r (nI_1 T) ⟨hv, nm_r (e' := upd a_height T (nI hh)) (by rw [nI_clamp (by omega), qb_ns16 (by omega)]) h⟩)⟩⟩
theorem yo_op (P : pg_T K V Z a_up a_below LN) (hr : r < 4) (hi : i < LN r) {o hh : Nat} (hT : T + 1 < 600) (hh7 : hh < 700) (eT : a_token T = nI (40 * r + i)) (ho : o < tk_np (K (40 * r + i)) (V (40 * r + i))) (h : post (f_place, nI (T + 1 + 1), nI hh, f_depth, 0, f_endTarget, f_endKind, f_endWorth, f_steps, f_says, f_result, f_thrown, f_over, a_kind, a_up, a_length, a_value, a_below, a_open, upd a_token (T + 1) (nI (40 * r + tr_ca (ro Z r) i o)), upd a_height (T + 1) (nI hh), a_target, upd (upd a_phase T (nI (o + 1))) (T + 1) 0, a_how, a_kinds, a_worth, a_values, a_variables, a_begun, a_output)) : wpY_operand post (f_place, nI (T + 1), nI hh, f_depth, f_ended, f_endTarget, f_endKind, f_endWorth, f_steps, f_says, f_result, f_thrown, f_over, a_kind, a_up, a_length, a_value, a_below, a_open, a_token, a_height, a_target, a_phase, a_how, a_kinds, a_worth, a_values, a_variables, a_begun, a_output) (nI o) := by
  obtain ⟨hk, hj, hi40⟩ := pg_tok P hr hi
  have h4 := tk_np_le hk
  have Tr := P r hr (by omega)
  have hL := Tr.2.1
  obtain ⟨t1, t2, t3, t4⟩ := (Tr.2.2.2 i hi).2.2.1 o ho
  have e : nI (T + 1) - 1 = nI T := nI_pred T
  have e4 : (4 : Int32) * nI (40 * r + i) + nI o = nI (160 * r + (4 * i + o)) := by
    rw [show (4 : Int32) * nI (40 * r + i) = nI (4 * (40 * r + i)) from pk_mul 4 _, nI_add]
    exact congrArg nI (by omega)
  have ed : nI (40 * r + i) / 40 * 40 = nI (40 * r) := by
    rw [show nI (40 * r + i) / 40 = nI ((40 * r + i) / 40) from pk_div (d := 40) (by omega) (by omega) (by omega), show nI ((40 * r + i) / 40) * 40 = nI ((40 * r + i) / 40 * 40) from pk_mul _ 40]
    exact congrArg nI (by omega)
  refine ⟨by rw [e]; exact vp_in_nI (by omega) (by decide), nm_r (e' := nI (40 * r + i)) (by rw [e, nI_clamp (by omega), eT]) ⟨by rw [e]; exact vp_in_nI (by omega) (by decide), nm_r (e' := upd a_phase T (nI (o + 1))) (by rw [e, nI_clamp (by omega), nI_1, qb_nb8 (by omega)]) ⟨by decide, ?_, ?_⟩⟩⟩
  · rw [e4]
    exact vp_in_nI (by omega) (by decide)
  · rw [e4, nI_clamp (by omega), ed]
    have t2' : a_below (160 * r + (4 * i + o)) = nI (tr_ca (ro Z r) i o) := t2
    rw [t2', nI_add]
    exact yo_begin hT (by omega) hh7 h
theorem yo_thr0 {hh : Nat} {x : Int32} (hT : T < 600) (eH : a_height T = nI hh) (h : post (f_place, nI T, nI hh, f_depth, f_ended, f_endTarget, f_endKind, f_endWorth, f_steps, f_says, f_result, f_thrown, f_over, a_kind, a_up, a_length, a_value, a_below, a_open, a_token, a_height, a_target, a_phase, a_how, a_kinds, a_worth, a_values, a_variables, a_begun, a_output)) : wpY_through post (f_place, nI (T + 1), f_held, f_depth, f_ended, f_endTarget, f_endKind, f_endWorth, f_steps, f_says, f_result, f_thrown, f_over, a_kind, a_up, a_length, a_value, a_below, a_open, a_token, a_height, a_target, a_phase, a_how, a_kinds, a_worth, a_values, a_variables, a_begun, a_output) 0 x := by
  refine nm_r (nI_pred T) ⟨vp_in_nI hT (by decide), nm_r (e' := nI hh) (by rw [nI_clamp (by omega), eH]) (br_t rfl h)⟩
theorem yo_thr1 {hh : Nat} {x : Int32} (hT : T < 600) (hh7 : hh < 700) (eH : a_height T = nI hh) (h : post (f_place, nI T, nI (hh + 1), f_depth, f_ended, f_endTarget, f_endKind, f_endWorth, f_steps, f_says, f_result, f_thrown, f_over, a_kind, a_up, a_length, a_value, a_below, a_open, a_token, a_height, a_target, a_phase, a_how, a_kinds, a_worth, upd a_values hh x, a_variables, a_begun, a_output)) : wpY_through post (f_place, nI (T + 1), f_held, f_depth, f_ended, f_endTarget, f_endKind, f_endWorth, f_steps, f_says, f_result, f_thrown, f_over, a_kind, a_up, a_length, a_value, a_below, a_open, a_token, a_height, a_target, a_phase, a_how, a_kinds, a_worth, a_values, a_variables, a_begun, a_output) 1 x := by
  refine nm_r (nI_pred T) ⟨vp_in_nI hT (by decide), nm_r (e' := nI hh) (by rw [nI_clamp (by omega), eH]) (br_f (by decide) (nm_r (nI_1 hh) ⟨vp_in_nI hh7 (by decide), nm_r (by rw [nI_clamp (by omega)]) h⟩))⟩
/-- an expression: not a call that comes back -/
theorem ye_in {k v : Int32} (hk : tk_ok k v) (hs : tk_so k = 0) (h2 : k = 8 → y ≤ 1) (hy : y < 10) (h : wY_expression_23 post (nI j) k (nI y) (nI (tk_np k v)) f_place f_top f_held f_depth f_ended f_endTarget f_endKind f_endWorth f_steps f_says f_result f_thrown f_over a_kind a_up a_length a_value a_below a_open a_token a_height a_target a_phase a_how a_kinds a_worth a_values a_variables a_begun a_output) : wpY_expression post (f_place, f_top, f_held, f_depth, f_ended, f_endTarget, f_endKind, f_endWorth, f_steps, f_says, f_result, f_thrown, f_over, a_kind, a_up, a_length, a_value, a_below, a_open, a_token, a_height, a_target, a_phase, a_how, a_kinds, a_worth, a_values, a_variables, a_begun, a_output) (nI j) k (nI y) := by
  obtain ⟨h0, e0⟩ := tk_ok_x hk hs
  unfold wpY_expression
  refine qy_op h0 ?_
  rw [e0]
  refine br_c (fun e => br_f (fun z => ?_) h) (fun _ => h)
  have := (nI_eq (a := y) (b := 2) (by omega) (by omega)).mp z
  have := h2 e
  omega
theorem ye_thrown {k : Int32} {x4 hh : Nat} (hT : T < 600) (eH : a_height T = nI hh) (h : post (f_place, nI T, nI hh, f_depth, 4, f_endTarget, f_endKind, f_endWorth, f_steps, f_says, f_result, f_thrown, f_over, a_kind, a_up, a_length, a_value, a_below, a_open, a_token, a_height, a_target, a_phase, a_how, a_kinds, a_worth, a_values, a_variables, a_begun, a_output)) : wY_expression_23 post (nI j) k (nI y) (nI x4) f_place (nI (T + 1)) f_held f_depth 4 f_endTarget f_endKind f_endWorth f_steps f_says f_result f_thrown f_over a_kind a_up a_length a_value a_below a_open a_token a_height a_target a_phase a_how a_kinds a_worth a_values a_variables a_begun a_output := br_t rfl (yo_thr0 hT eH h)
theorem ye_part (P : pg_T K V Z a_up a_below LN) (hr : r < 4) (hi : i < LN r) {hh : Nat} (hT : T + 1 < 600) (hh7 : hh < 700) (eT : a_token T = nI (40 * r + i)) (ho : y < tk_np (K (40 * r + i)) (V (40 * r + i))) (h : post (f_place, nI (T + 1 + 1), nI hh, f_depth, 0, f_endTarget, f_endKind, f_endWorth, f_steps, f_says, f_result, f_thrown, f_over, a_kind, a_up, a_length, a_value, a_below, a_open, upd a_token (T + 1) (nI (40 * r + tr_ca (ro Z r) i y)), upd a_height (T + 1) (nI hh), a_target, upd (upd a_phase T (nI (y + 1))) (T + 1) 0, a_how, a_kinds, a_worth, a_values, a_variables, a_begun, a_output)) {k : Int32} : wY_expression_23 post (nI j) k (nI y) (nI (tk_np (K (40 * r + i)) (V (40 * r + i)))) f_place (nI (T + 1)) (nI hh) f_depth 0 f_endTarget f_endKind f_endWorth f_steps f_says f_result f_thrown f_over a_kind a_up a_length a_value a_below a_open a_token a_height a_target a_phase a_how a_kinds a_worth a_values a_variables a_begun a_output := by
  have h4 := tk_np_le (pg_tok P hr hi).1
  exact br_f (by decide) (br_f (nI_ge ho (by omega)) (yo_op P hr hi hT hh7 eT ho h))
theorem ye_num {hh : Nat} (hT : T < 600) (hj : j < 200) (hh7 : hh < 700) (eH : a_height T = nI hh) (h : post (f_place, nI T, nI (hh + 1), f_depth, 0, f_endTarget, f_endKind, f_endWorth, f_steps, f_says, f_result, f_thrown, f_over, a_kind, a_up, a_length, a_value, a_below, a_open, a_token, a_height, a_target, a_phase, a_how, a_kinds, a_worth, upd a_values hh (a_value j), a_variables, a_begun, a_output)) : wY_expression_23 post (nI j) 0 (nI 0) (nI 0) f_place (nI (T + 1)) f_held f_depth 0 f_endTarget f_endKind f_endWorth f_steps f_says f_result f_thrown f_over a_kind a_up a_length a_value a_below a_open a_token a_height a_target a_phase a_how a_kinds a_worth a_values a_variables a_begun a_output := by
  refine br_f (by decide) (br_t (by decide) (br_f (by decide) (br_t (by decide) ⟨vp_in_nI hj (by decide), ?_⟩)))
  rw [nI_clamp (n := j) (by omega)]
  exact br_t (by decide) (br_f (by decide) (br_f (by decide) (br_f (by decide) (yo_thr1 hT hh7 eH h))))
theorem ye_var {hh w mm : Nat} (hT : T < 600) (hj : j < 200) (hh7 : hh < 700) (eH : a_height T = nI hh) (hv : a_value j = nI mm) (hm : mm < 6) (w1 : 1 ≤ w) (w12 : w ≤ 12) (h : post (f_place, nI T, nI (hh + 1), nI w, 0, f_endTarget, f_endKind, f_endWorth, f_steps, f_says, f_result, f_thrown, f_over, a_kind, a_up, a_length, a_value, a_below, a_open, a_token, a_height, a_target, a_phase, a_how, a_kinds, a_worth, upd a_values hh (a_variables (6 * (w - 1) + mm)), a_variables, a_begun, a_output)) : wY_expression_23 post (nI j) 1 (nI 0) (nI 0) f_place (nI (T + 1)) f_held (nI w) 0 f_endTarget f_endKind f_endWorth f_steps f_says f_result f_thrown f_over a_kind a_up a_length a_value a_below a_open a_token a_height a_target a_phase a_how a_kinds a_worth a_values a_variables a_begun a_output := by
  refine br_f (by decide) (br_t (by decide) (br_f (by decide) (br_t (by decide) ⟨vp_in_nI hj (by decide), ?_⟩)))
  refine br_t (by decide) (br_t (by decide) ⟨vp_in_nI hj (by decide), ?_, nm_r (e' := a_variables (6 * (w - 1) + mm)) ?_ ?_⟩)
  · rw [nI_clamp (n := j) (by omega), hv, vy_ix w1]
    exact vp_in_nI (by omega) (by decide)
  · rw [nI_clamp (n := j) (by omega), hv, vy_ix w1, nI_clamp (by omega)]
  · exact br_f (by decide) (br_f (by decide) (yo_thr1 hT hh7 eH h))
/-- what an operation of two gives -/
def ev_2 (k a b : Int32) : Int32 := if k = 2 then a + b else if k = 3 then a - b else if k = 4 then a * b else if k = 5 then a / b else if b ≤ a then 0 else 1
theorem ye_two {hh : Nat} {k : Int32} (hk : k = 2 ∨ k = 3 ∨ k = 4 ∨ k = 5 ∨ k = 6) (hd : k = 5 → ¬ a_values (hh + 1) = 0) (hT : T < 600) (hh7 : hh + 1 < 700) (eH : a_height T = nI hh) (h : post (f_place, nI T, nI (hh + 1), f_depth, 0, f_endTarget, f_endKind, f_endWorth, f_steps, f_says, f_result, f_thrown, f_over, a_kind, a_up, a_length, a_value, a_below, a_open, a_token, a_height, a_target, a_phase, a_how, a_kinds, a_worth, upd a_values hh (ev_2 k (a_values hh) (a_values (hh + 1))), a_variables, a_begun, a_output)) : wY_expression_23 post (nI j) k (nI 2) (nI 2) f_place (nI (T + 1)) (nI (hh + 2)) f_depth 0 f_endTarget f_endKind f_endWorth f_steps f_says f_result f_thrown f_over a_kind a_up a_length a_value a_below a_open a_token a_height a_target a_phase a_how a_kinds a_worth a_values a_variables a_begun a_output := by
  have e2 : nI (hh + 2) - nI 2 = nI hh := pk_sub (by omega)
  have e1 : nI (hh + 2) - 1 = nI (hh + 1) := nI_pred (hh + 1)
  refine br_f (by decide) (br_t (by decide) (br_f (by rcases hk with rfl | rfl | rfl | rfl | rfl <;> decide) (br_f (by decide) ⟨by rw [e2]; exact vp_in_nI (by omega) (by decide), br_f (by decide) ⟨by rw [e1]; exact vp_in_nI (by omega) (by decide), ?_⟩⟩)))
  rw [e1, e2, nI_clamp (n := hh) (by omega), nI_clamp (n := hh + 1) (by omega)]
  refine br_f (by rcases hk with rfl | rfl | rfl | rfl | rfl <;> decide) ?_
  have go : wY_expression_229 post k (a_values hh) (a_values (hh + 1)) f_place (nI (T + 1)) (nI (hh + 2)) f_depth 0 f_endTarget f_endKind f_endWorth f_steps f_says f_result f_thrown f_over a_kind a_up a_length a_value a_below a_open a_token a_height a_target a_phase a_how a_kinds a_worth a_values a_variables a_begun a_output := by
    have fin : wY_expression_247 post (ev_2 k (a_values hh) (a_values (hh + 1))) f_place (nI (T + 1)) (nI (hh + 2)) f_depth 0 f_endTarget f_endKind f_endWorth f_steps f_says f_result f_thrown f_over a_kind a_up a_length a_value a_below a_open a_token a_height a_target a_phase a_how a_kinds a_worth a_values a_variables a_begun a_output := yo_thr1 hT (by omega) eH h
    rcases hk with rfl | rfl | rfl | rfl | rfl
    · exact br_t (by decide) (br_f (by decide) (br_f (by decide) (br_t (by decide) fin)))
    · exact br_t (by decide) (br_f (by decide) (br_f (by decide) (br_f (by decide) (br_t (by decide) fin))))
    · exact br_t (by decide) (br_f (by decide) (br_f (by decide) (br_f (by decide) (br_f (by decide) (br_t (by decide) fin)))))
    · exact br_t (by decide) (br_f (by decide) (br_f (by decide) (br_f (by decide) (br_f (by decide) (br_f (by decide) (br_t (by decide) (br_f (hd rfl) ⟨hd rfl, fin⟩)))))))
    · refine br_t (by decide) (br_f (by decide) (br_f (by decide) (br_f (by decide) (br_f (by decide) (br_f (by decide) (br_f (by decide) (br_t (by decide) (br_c (fun z => ?_) (fun z => ?_)))))))))
      · have e : ev_2 6 (a_values hh) (a_values (hh + 1)) = 0 := if_pos z
        rw [e] at fin
        exact fin
      · have e : ev_2 6 (a_values hh) (a_values (hh + 1)) = 1 := if_neg z
        rw [e] at fin
        exact fin
  exact br_c (fun e => br_f (hd e) go) (fun _ => go)
theorem ye_div0 {hh : Nat} (h0 : a_values (hh + 1) = 0) (hT : T < 600) (hh7 : hh + 1 < 700) (eH : a_height T = nI hh) (h : post (f_place, nI T, nI hh, f_depth, 4, f_endTarget, 0, a_values hh, f_steps, f_says, f_result, f_thrown, f_over, a_kind, a_up, a_length, a_value, a_below, a_open, a_token, a_height, a_target, a_phase, a_how, a_kinds, a_worth, a_values, a_variables, a_begun, a_output)) : wY_expression_23 post (nI j) 5 (nI 2) (nI 2) f_place (nI (T + 1)) (nI (hh + 2)) f_depth 0 f_endTarget f_endKind f_endWorth f_steps f_says f_result f_thrown f_over a_kind a_up a_length a_value a_below a_open a_token a_height a_target a_phase a_how a_kinds a_worth a_values a_variables a_begun a_output := by
  have e2 : nI (hh + 2) - nI 2 = nI hh := pk_sub (by omega)
  have e1 : nI (hh + 2) - 1 = nI (hh + 1) := nI_pred (hh + 1)
  refine br_f (by decide) (br_t (by decide) (br_f (by decide) (br_f (by decide) ⟨by rw [e2]; exact vp_in_nI (by omega) (by decide), br_f (by decide) ⟨by rw [e1]; exact vp_in_nI (by omega) (by decide), ?_⟩⟩)))
  rw [e1, e2, nI_clamp (n := hh) (by omega), nI_clamp (n := hh + 1) (by omega)]
  have g : wpY_through post (f_place, nI (T + 1), nI (hh + 2), f_depth, 4, f_endTarget, 0, a_values hh, f_steps, f_says, f_result, f_thrown, f_over, a_kind, a_up, a_length, a_value, a_below, a_open, a_token, a_height, a_target, a_phase, a_how, a_kinds, a_worth, a_values, a_variables, a_begun, a_output) 0 0 := yo_thr0 hT eH h
  exact br_f (by decide) (br_t rfl (br_t h0 g))
theorem ye_not {hh : Nat} (hT : T < 600) (hh7 : hh < 700) (eH : a_height T = nI hh) (h : post (f_place, nI T, nI (hh + 1), f_depth, 0, f_endTarget, f_endKind, f_endWorth, f_steps, f_says, f_result, f_thrown, f_over, a_kind, a_up, a_length, a_value, a_below, a_open, a_token, a_height, a_target, a_phase, a_how, a_kinds, a_worth, upd a_values hh (if a_values hh = 0 then 1 else 0), a_variables, a_begun, a_output)) : wY_expression_23 post (nI j) 7 (nI 1) (nI 1) f_place (nI (T + 1)) (nI (hh + 1)) f_depth 0 f_endTarget f_endKind f_endWorth f_steps f_says f_result f_thrown f_over a_kind a_up a_length a_value a_below a_open a_token a_height a_target a_phase a_how a_kinds a_worth a_values a_variables a_begun a_output := by
  have e1 : nI (hh + 1) - nI 1 = nI hh := nI_pred hh
  refine br_f (by decide) (br_t (by decide) (br_f (by decide) (br_f (by decide) ⟨by rw [e1]; exact vp_in_nI (by omega) (by decide), br_t (by decide) ?_⟩)))
  rw [e1, nI_clamp (n := hh) (by omega)]
  refine br_f (by decide) (br_f (by decide) (br_t (by decide) (br_f (by decide) (br_t (by decide) (br_c (fun z => ?_) (fun z => ?_))))))
  · rw [if_pos z] at h
    exact yo_thr1 hT hh7 eH h
  · rw [if_neg z] at h
    exact yo_thr1 hT hh7 eH h
/-- Y's call -/
theorem yb_none {f : Nat} {a : Int32} (hf : f < 4) (hb : a_length f = 0) (h : post (f_place, f_top, f_held, f_depth, 4, f_endTarget, 1, nI f, f_steps, f_says, f_result, f_thrown, f_over, a_kind, a_up, a_length, a_value, a_below, a_open, a_token, a_height, a_target, a_phase, a_how, a_kinds, a_worth, a_values, a_variables, a_begun, a_output)) : wpY_call post (f_place, f_top, f_held, f_depth, f_ended, f_endTarget, f_endKind, f_endWorth, f_steps, f_says, f_result, f_thrown, f_over, a_kind, a_up, a_length, a_value, a_below, a_open, a_token, a_height, a_target, a_phase, a_how, a_kinds, a_worth, a_values, a_variables, a_begun, a_output) (nI f) a := by
  refine ⟨vp_in_nI (by omega) (by decide), br_t ?_ h⟩
  rw [nI_clamp (by omega)]
  exact hb
theorem yb_over {f : Nat} {a : Int32} (hf : f < 4) (hb : ¬ a_length f = 0) (h : post (f_place, f_top, f_held, f_depth, f_ended, f_endTarget, f_endKind, f_endWorth, nI 300, f_says, f_result, f_thrown, 1, a_kind, a_up, a_length, a_value, a_below, a_open, a_token, a_height, a_target, a_phase, a_how, a_kinds, a_worth, a_values, a_variables, a_begun, a_output)) : wpY_call post (f_place, f_top, f_held, f_depth, f_ended, f_endTarget, f_endKind, f_endWorth, nI 300, f_says, f_result, f_thrown, f_over, a_kind, a_up, a_length, a_value, a_below, a_open, a_token, a_height, a_target, a_phase, a_how, a_kinds, a_worth, a_values, a_variables, a_begun, a_output) (nI f) a := by
  refine ⟨vp_in_nI (by omega) (by decide), br_f ?_ (br_t rfl (br_t rfl h))⟩
  rw [nI_clamp (by omega)]
  exact hb
theorem ne_300 {q : Nat} (hq : q < 300) : ¬ nI q = 300 := fun z => by
  have := (nI_eq (a := q) (b := 300) (by omega) (by omega)).mp z
  omega
theorem yb_deep {f q : Nat} {a : Int32} (hf : f < 4) (hb : ¬ a_length f = 0) (hq : q < 300) (h : post (f_place, f_top, f_held, nI 12, 4, f_endTarget, 2, nI f, nI (q + 1), f_says, f_result, f_thrown, f_over, a_kind, a_up, a_length, a_value, a_below, a_open, a_token, a_height, a_target, a_phase, a_how, a_kinds, a_worth, a_values, a_variables, a_begun, a_output)) : wpY_call post (f_place, f_top, f_held, nI 12, f_ended, f_endTarget, f_endKind, f_endWorth, nI q, f_says, f_result, f_thrown, f_over, a_kind, a_up, a_length, a_value, a_below, a_open, a_token, a_height, a_target, a_phase, a_how, a_kinds, a_worth, a_values, a_variables, a_begun, a_output) (nI f) a := by
  refine ⟨vp_in_nI (by omega) (by decide), br_f ?_ (br_f (ne_300 hq) (nm_r (nI_1 q) (br_f (by decide) (br_t rfl h))))⟩
  rw [nI_clamp (by omega)]
  exact hb
def yv (va : Nat → Int32) (w m : Nat) (x : Int32) : Nat → Int32 := fun q => if 6 * w ≤ q ∧ q < 6 * w + m then (if q = 6 * w then x else 0) else va q
theorem yv_6 {va : Nat → Int32} {w : Nat} {x : Int32} : yv va w 6 x = vset va w x := by
  funext q
  unfold yv vset upd vz
  by_cases e : q = 6 * w
  · rw [if_pos e, if_pos e, if_pos (by omega)]
  · rw [if_neg e, if_neg e]
theorem yv_0 {va : Nat → Int32} {w : Nat} {x : Int32} : yv va w 0 x = va := by
  funext q
  exact if_neg (by omega)
theorem yv_s {va : Nat → Int32} {w m : Nat} {x z : Int32} (hz : z = if m = 0 then x else 0) : upd (yv va w m x) (6 * w + m) z = yv va w (m + 1) x := by
  funext q
  unfold upd yv
  by_cases e : q = 6 * w + m
  · rw [if_pos e, if_pos (by omega), hz]
    by_cases e0 : m = 0
    · rw [if_pos e0, if_pos (by omega)]
    · rw [if_neg e0, if_neg (by omega)]
  · rw [if_neg e]
    by_cases e2 : 6 * w ≤ q ∧ q < 6 * w + m
    · rw [if_pos e2, if_pos (show 6 * w ≤ q ∧ q < 6 * w + (m + 1) from by omega)]
    · rw [if_neg e2, if_neg (by omega)]
theorem yb_go {f q w hh : Nat} {a : Int32} (hT : T < 600) (hh7 : hh < 700) (hf : f < 4) (hb : ¬ a_length f = 0) (hq : q < 300) (hw : w < 12) (h : post (f_place, nI (T + 1), nI hh, nI (w + 1), 0, f_endTarget, f_endKind, f_endWorth, nI (q + 1), f_says, f_result, f_thrown, f_over, a_kind, a_up, a_length, a_value, a_below, a_open, upd a_token T (nI (40 * f)), upd a_height T (nI hh), a_target, upd a_phase T 0, a_how, a_kinds, a_worth, a_values, vset a_variables w a, a_begun, a_output)) : wpY_call post (f_place, nI T, nI hh, nI w, f_ended, f_endTarget, f_endKind, f_endWorth, nI q, f_says, f_result, f_thrown, f_over, a_kind, a_up, a_length, a_value, a_below, a_open, a_token, a_height, a_target, a_phase, a_how, a_kinds, a_worth, a_values, a_variables, a_begun, a_output) (nI f) a := by
  have ix : ∀ m, 6 * nI w + nI m = nI (6 * w + m) := fun m => by rw [show (6 : Int32) * nI w = nI (6 * w) from pk_mul 6 w, nI_add]
  have Lp : ∀ d m, m + d = 6 → wY_call_45 post (nI f) a f_place (nI T) (nI hh) (nI w) f_ended f_endTarget f_endKind f_endWorth (nI (q + 1)) f_says f_result f_thrown f_over (d + 1) (nI m) a_kind a_up a_length a_value a_below a_open a_token a_height a_target a_phase a_how a_kinds a_worth a_values (yv a_variables w m a) a_begun a_output := by
    intro d
    induction d with
    | zero =>
      intro m hm
      have : m = 6 := by omega
      subst this
      refine br_t (by decide) (nm_r (nI_1 w) ?_)
      rw [yv_6, show (40 : Int32) * nI f = nI (40 * f) from pk_mul 40 f]
      exact yo_begin hT (by omega) hh7 h
    | succ d ih =>
      intro m hm
      refine br_f (nI_ge (b := 6) (by omega) (by decide)) (pk_eq m 0 (fun e => ⟨?_, nm_r (e' := yv a_variables w (m + 1) a) ?_ (nm_r (nI_1 m) (ih (m + 1) (by omega)))⟩) (fun e => ⟨?_, nm_r (e' := yv a_variables w (m + 1) a) ?_ (nm_r (nI_1 m) (ih (m + 1) (by omega)))⟩))
      · rw [ix m]; exact vp_in_nI (by omega) (by decide)
      · rw [ix m, nI_clamp (by omega)]
        exact yv_s (by rw [if_pos e])
      · rw [ix m]; exact vp_in_nI (by omega) (by decide)
      · rw [ix m, nI_clamp (by omega)]
        exact yv_s (by rw [if_neg e])
  refine ⟨vp_in_nI (by omega) (by decide), br_f ?_ (br_f (ne_300 hq) (nm_r (nI_1 q) (br_f (by decide) (br_f ?_ ⟨7, ?_⟩))))⟩
  · rw [nI_clamp (by omega)]
    exact hb
  · intro z
    have := (nI_eq (a := w) (b := 12) (by omega) (by omega)).mp z
    omega
  · have := Lp 6 0 (by omega)
    rw [yv_0] at this
    exact this
end
