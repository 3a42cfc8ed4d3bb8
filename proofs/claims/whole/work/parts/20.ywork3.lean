theorem tk_cn_le (v : Int32) : tk_cn v ≤ 2 := by
  unfold tk_cn
  repeat' split
  all_goals omega
section
variable {f_place f_top f_held f_depth f_ended f_endTarget f_endKind f_endWorth f_steps f_says f_result f_thrown f_over : Int32} {a_kind a_up a_length a_value a_below a_open a_token a_height a_target a_phase a_how a_kinds a_worth a_values a_variables a_begun a_output : Nat → Int32} {post : SY → Prop} {T j y r i hh : Nat} {K V Z : Nat → Int32} {LN : Nat → Nat}
theorem yq_step (P : pg_T K V Z a_up a_below LN) (hr : r < 4) (hi : i < LN r) {q : Nat} (hq : q < 300) (hT : T + 1 < 600) (hh7 : hh < 700) (eT : a_token T = nI (40 * r + i)) (ho : 0 < tk_np (K (40 * r + i)) (V (40 * r + i))) (h : post (f_place, nI (T + 1 + 1), nI hh, f_depth, 0, f_endTarget, f_endKind, f_endWorth, nI (q + 1), f_says, f_result, f_thrown, f_over, a_kind, a_up, a_length, a_value, a_below, a_open, upd a_token (T + 1) (nI (40 * r + tr_ca (ro Z r) i 0)), upd a_height (T + 1) (nI hh), a_target, upd (upd a_phase T 1) (T + 1) 0, a_how, a_kinds, a_worth, a_values, a_variables, a_begun, a_output)) : wY_repeat_58 post f_place (nI (T + 1)) (nI hh) f_depth f_ended f_endTarget f_endKind f_endWorth (nI q) f_says f_result f_thrown f_over a_kind a_up a_length a_value a_below a_open a_token a_height a_target a_phase a_how a_kinds a_worth a_values a_variables a_begun a_output := by
  have g : wpY_operand post (f_place, nI (T + 1), nI hh, f_depth, f_ended, f_endTarget, f_endKind, f_endWorth, nI (q + 1), f_says, f_result, f_thrown, f_over, a_kind, a_up, a_length, a_value, a_below, a_open, a_token, a_height, a_target, a_phase, a_how, a_kinds, a_worth, a_values, a_variables, a_begun, a_output) (nI 0) := yo_op P hr hi hT hh7 eT ho h
  exact br_f (ne_300 hq) (nm_r (nI_1 q) (br_f (by decide) g))
theorem yq_over (h : post (f_place, f_top, f_held, f_depth, f_ended, f_endTarget, f_endKind, f_endWorth, nI 300, f_says, f_result, f_thrown, 1, a_kind, a_up, a_length, a_value, a_below, a_open, a_token, a_height, a_target, a_phase, a_how, a_kinds, a_worth, a_values, a_variables, a_begun, a_output)) : wY_repeat_58 post f_place f_top f_held f_depth f_ended f_endTarget f_endKind f_endWorth (nI 300) f_says f_result f_thrown f_over a_kind a_up a_length a_value a_below a_open a_token a_height a_target a_phase a_how a_kinds a_worth a_values a_variables a_begun a_output := br_t rfl (br_t rfl h)
theorem yq_0 (h : wY_repeat_58 post f_place f_top f_held f_depth 0 f_endTarget f_endKind f_endWorth f_steps f_says f_result f_thrown f_over a_kind a_up a_length a_value a_below a_open a_token a_height a_target a_phase a_how a_kinds a_worth a_values a_variables a_begun a_output) : wpY_repeat post (f_place, f_top, f_held, f_depth, 0, f_endTarget, f_endKind, f_endWorth, f_steps, f_says, f_result, f_thrown, f_over, a_kind, a_up, a_length, a_value, a_below, a_open, a_token, a_height, a_target, a_phase, a_how, a_kinds, a_worth, a_values, a_variables, a_begun, a_output) (nI j) (nI 0) := br_f (by decide) (br_f (by decide) (br_t rfl h))
theorem yq_2n (h : wY_repeat_58 post f_place f_top f_held f_depth 0 f_endTarget f_endKind f_endWorth f_steps f_says f_result f_thrown f_over a_kind a_up a_length a_value a_below a_open a_token a_height a_target a_phase a_how a_kinds a_worth a_values a_variables a_begun a_output) : wpY_repeat post (f_place, f_top, f_held, f_depth, 0, f_endTarget, f_endKind, f_endWorth, f_steps, f_says, f_result, f_thrown, f_over, a_kind, a_up, a_length, a_value, a_below, a_open, a_token, a_height, a_target, a_phase, a_how, a_kinds, a_worth, a_values, a_variables, a_begun, a_output) (nI j) (nI 2) := br_f (by decide) (br_f (by decide) (br_f (by decide) (br_t rfl (br_t rfl h))))
theorem yq_2c (h : wY_repeat_58 post f_place f_top f_held f_depth 2 (nI j) f_endKind f_endWorth f_steps f_says f_result f_thrown f_over a_kind a_up a_length a_value a_below a_open a_token a_height a_target a_phase a_how a_kinds a_worth a_values a_variables a_begun a_output) : wpY_repeat post (f_place, f_top, f_held, f_depth, 2, nI j, f_endKind, f_endWorth, f_steps, f_says, f_result, f_thrown, f_over, a_kind, a_up, a_length, a_value, a_below, a_open, a_token, a_height, a_target, a_phase, a_how, a_kinds, a_worth, a_values, a_variables, a_begun, a_output) (nI j) (nI 2) := br_f (by decide) (br_t rfl (br_t rfl (br_f (by decide) (br_t rfl (br_f (by decide) (br_f (by decide) (br_t rfl h)))))))
theorem yq_2b (hT : T < 600) (eH : a_height T = nI hh) (h : post (f_place, nI T, nI hh, f_depth, 0, nI j, f_endKind, f_endWorth, f_steps, f_says, f_result, f_thrown, f_over, a_kind, a_up, a_length, a_value, a_below, a_open, a_token, a_height, a_target, a_phase, a_how, a_kinds, a_worth, a_values, a_variables, a_begun, a_output)) : wpY_repeat post (f_place, nI (T + 1), f_held, f_depth, 1, nI j, f_endKind, f_endWorth, f_steps, f_says, f_result, f_thrown, f_over, a_kind, a_up, a_length, a_value, a_below, a_open, a_token, a_height, a_target, a_phase, a_how, a_kinds, a_worth, a_values, a_variables, a_begun, a_output) (nI j) (nI 2) :=
  br_t rfl (br_t rfl (br_f (by decide) (br_t rfl (br_f (by decide) (br_f (by decide) (br_f (by decide) (br_f (by decide) (yo_thr0 hT eH (br_f (by decide) h)))))))))
theorem yq_out (hT : T < 600) (eH : a_height T = nI hh) (hy : y = 1 ∨ y = 2) (he : ¬ f_ended = 0) (ht : (f_ended = 1 ∨ f_ended = 2) → ¬ f_endTarget = nI j) (h : post (f_place, nI T, nI hh, f_depth, f_ended, f_endTarget, f_endKind, f_endWorth, f_steps, f_says, f_result, f_thrown, f_over, a_kind, a_up, a_length, a_value, a_below, a_open, a_token, a_height, a_target, a_phase, a_how, a_kinds, a_worth, a_values, a_variables, a_begun, a_output)) : wpY_repeat post (f_place, nI (T + 1), f_held, f_depth, f_ended, f_endTarget, f_endKind, f_endWorth, f_steps, f_says, f_result, f_thrown, f_over, a_kind, a_up, a_length, a_value, a_below, a_open, a_token, a_height, a_target, a_phase, a_how, a_kinds, a_worth, a_values, a_variables, a_begun, a_output) (nI j) (nI y) := by
  have g : wY_repeat_129 post 0 f_place (nI (T + 1)) f_held f_depth f_ended f_endTarget f_endKind f_endWorth f_steps f_says f_result f_thrown f_over a_kind a_up a_length a_value a_below a_open a_token a_height a_target a_phase a_how a_kinds a_worth a_values a_variables a_begun a_output := yo_thr0 hT eH (br_t rfl h)
  have g2 : wY_repeat_28 post (nI y) f_place (nI (T + 1)) f_held f_depth f_ended f_endTarget f_endKind f_endWorth f_steps f_says f_result f_thrown f_over a_kind a_up a_length a_value a_below a_open a_token a_height a_target a_phase a_how a_kinds a_worth a_values a_variables a_begun a_output := by
    rcases hy with rfl | rfl
    · exact br_f (by decide) (br_f (by decide) (br_t rfl (br_f he g)))
    · exact br_f (by decide) (br_t rfl (br_f he (br_t rfl (br_f (by decide) g))))
  exact br_c (fun z => br_f (ht (Or.inl z)) g2) (fun _ => br_c (fun z => br_f (ht (Or.inr z)) g2) (fun _ => g2))
theorem yq_1z (hT : T < 600) (hh7 : hh < 700) {h0 : Nat} (eH : a_height T = nI h0) (hv : a_values hh = 0) (h : post (f_place, nI T, nI h0, f_depth, 0, f_endTarget, f_endKind, f_endWorth, f_steps, f_says, f_result, f_thrown, f_over, a_kind, a_up, a_length, a_value, a_below, a_open, a_token, a_height, a_target, a_phase, a_how, a_kinds, a_worth, a_values, a_variables, a_begun, a_output)) : wpY_repeat post (f_place, nI (T + 1), nI (hh + 1), f_depth, 0, f_endTarget, f_endKind, f_endWorth, f_steps, f_says, f_result, f_thrown, f_over, a_kind, a_up, a_length, a_value, a_below, a_open, a_token, a_height, a_target, a_phase, a_how, a_kinds, a_worth, a_values, a_variables, a_begun, a_output) (nI j) (nI 1) := by
  have e1 : nI (hh + 1) - 1 = nI hh := nI_pred hh
  have g : wpY_through post (f_place, nI (T + 1), nI hh, f_depth, 0, f_endTarget, f_endKind, f_endWorth, f_steps, f_says, f_result, f_thrown, f_over, a_kind, a_up, a_length, a_value, a_below, a_open, a_token, a_height, a_target, a_phase, a_how, a_kinds, a_worth, a_values, a_variables, a_begun, a_output) 0 0 := yo_thr0 hT eH h
  exact br_f (by decide) (br_f (by decide) (br_f (by decide) (br_f (by decide) (br_t rfl (br_t rfl (nm_r e1 ⟨by rw [e1]; exact vp_in_nI hh7 (by decide), nm_r (e' := a_values hh) (by rw [e1, nI_clamp (by omega)]) (br_t hv g)⟩))))))
theorem yq_1g (P : pg_T K V Z a_up a_below LN) (hr : r < 4) (hi : i < LN r) (hT : T + 1 < 600) (hh7 : hh < 700) (eT : a_token T = nI (40 * r + i)) (ho : 1 < tk_np (K (40 * r + i)) (V (40 * r + i))) (hv : ¬ a_values hh = 0) (h : post (f_place, nI (T + 1 + 1), nI hh, f_depth, 0, f_endTarget, f_endKind, f_endWorth, f_steps, f_says, f_result, f_thrown, f_over, a_kind, a_up, a_length, a_value, a_below, a_open, upd a_token (T + 1) (nI (40 * r + tr_ca (ro Z r) i 1)), upd a_height (T + 1) (nI hh), a_target, upd (upd a_phase T 2) (T + 1) 0, a_how, a_kinds, a_worth, a_values, a_variables, a_begun, a_output)) : wpY_repeat post (f_place, nI (T + 1), nI (hh + 1), f_depth, 0, f_endTarget, f_endKind, f_endWorth, f_steps, f_says, f_result, f_thrown, f_over, a_kind, a_up, a_length, a_value, a_below, a_open, a_token, a_height, a_target, a_phase, a_how, a_kinds, a_worth, a_values, a_variables, a_begun, a_output) (nI j) (nI 1) := by
  have e1 : nI (hh + 1) - 1 = nI hh := nI_pred hh
  have g : wpY_operand post (f_place, nI (T + 1), nI hh, f_depth, 0, f_endTarget, f_endKind, f_endWorth, f_steps, f_says, f_result, f_thrown, f_over, a_kind, a_up, a_length, a_value, a_below, a_open, a_token, a_height, a_target, a_phase, a_how, a_kinds, a_worth, a_values, a_variables, a_begun, a_output) (nI 1) := yo_op P hr hi hT hh7 eT ho h
  exact br_f (by decide) (br_f (by decide) (br_f (by decide) (br_f (by decide) (br_t rfl (br_t rfl (nm_r e1 ⟨by rw [e1]; exact vp_in_nI hh7 (by decide), nm_r (e' := a_values hh) (by rw [e1, nI_clamp (by omega)]) (br_f hv g)⟩))))))
-- attempt
theorem yz_cn {v : Int32} (hk : tk_ok 17 v) : v &&& 3 = nI (tk_cn v) ∧ ((v ≤ 3 ∧ tk_fn v = 0) ∨ (¬ v ≤ 3 ∧ tk_fn v = 1)) := by
  rcases tk_try hk with rfl | rfl | rfl | rfl | rfl <;> decide
theorem yz_0 (P : pg_T K V Z a_up a_below LN) (E : pg_E K V a_kind a_value LN) (hr : r < 4) (hi : i < LN r) (hT : T + 1 < 600) (hh7 : hh < 700) (eT : a_token T = nI (40 * r + i)) (ho : 0 < tk_np (K (40 * r + i)) (V (40 * r + i))) (h : post (f_place, nI (T + 1 + 1), nI hh, f_depth, 0, f_endTarget, f_endKind, f_endWorth, f_steps, f_says, f_result, f_thrown, f_over, a_kind, a_up, a_length, a_value, a_below, a_open, upd a_token (T + 1) (nI (40 * r + tr_ca (ro Z r) i 0)), upd a_height (T + 1) (nI hh), a_target, upd (upd a_phase T 1) (T + 1) 0, a_how, a_kinds, a_worth, a_values, a_variables, a_begun, a_output)) : wpY_attempt post (f_place, nI (T + 1), nI hh, f_depth, f_ended, f_endTarget, f_endKind, f_endWorth, f_steps, f_says, f_result, f_thrown, f_over, a_kind, a_up, a_length, a_value, a_below, a_open, a_token, a_height, a_target, a_phase, a_how, a_kinds, a_worth, a_values, a_variables, a_begun, a_output) (nI (40 * r + i)) (nI 0) := by
  obtain ⟨_, hj, _⟩ := pg_tok P hr hi
  have g : wpY_operand post (f_place, nI (T + 1), nI hh, f_depth, f_ended, f_endTarget, f_endKind, f_endWorth, f_steps, f_says, f_result, f_thrown, f_over, a_kind, a_up, a_length, a_value, a_below, a_open, a_token, a_height, a_target, a_phase, a_how, a_kinds, a_worth, a_values, a_variables, a_begun, a_output) (nI 0) := yo_op P hr hi hT hh7 eT ho h
  exact ⟨vp_in_nI (by omega) (by decide), nm_e (nm_e (br_t rfl g))⟩
/-- the road of attempt behind the choice of a catch -/
theorem yz_46 (P : pg_T K V Z a_up a_below LN) (E : pg_E K V a_kind a_value LN) (hr : r < 4) (hi : i < LN r) (hk : K (40 * r + i) = 17) (hy : 1 ≤ y) (hy4 : y ≤ 4) (he : y = 1 → ¬ f_ended = 4) (h : wY_attempt_47 post (nI (40 * r + i)) (nI y) (nI (tk_cn (V (40 * r + i)))) (nI (1 + tk_cn (V (40 * r + i)))) 0 f_place f_top f_held f_depth f_ended f_endTarget f_endKind f_endWorth f_steps f_says f_result f_thrown f_over a_kind a_up a_length a_value a_below a_open a_token a_height a_target a_phase a_how a_kinds a_worth a_values a_variables a_begun a_output) : wpY_attempt post (f_place, f_top, f_held, f_depth, f_ended, f_endTarget, f_endKind, f_endWorth, f_steps, f_says, f_result, f_thrown, f_over, a_kind, a_up, a_length, a_value, a_below, a_open, a_token, a_height, a_target, a_phase, a_how, a_kinds, a_worth, a_values, a_variables, a_begun, a_output) (nI (40 * r + i)) (nI y) := by
  obtain ⟨hok, hj, _⟩ := pg_tok P hr hi
  rw [hk] at hok
  have ev := (E r hr i hi).2
  refine ⟨vp_in_nI (by omega) (by decide), nm_r (e' := nI (tk_cn (V (40 * r + i)))) (by rw [nI_clamp (by omega), ev]; exact (yz_cn hok).1) (nm_r (e' := nI (1 + tk_cn (V (40 * r + i)))) (nI_add 1 _) (br_f (nI_ne0 hy (by omega)) (br_c (fun z => br_f (he ?_) h) (fun _ => h))))⟩
  exact (nI_eq (a := y) (b := 1) (by omega) (by omega)).mp z
theorem yz_none (P : pg_T K V Z a_up a_below LN) (E : pg_E K V a_kind a_value LN) (hr : r < 4) (hi : i < LN r) (hk : K (40 * r + i) = 17) (hy : 1 ≤ y) (hy2 : y ≤ tk_cn (V (40 * r + i)) + 1) (hf : tk_fn (V (40 * r + i)) = 0) (hT : T < 600) (eH : a_height T = nI hh) (h : post (f_place, nI T, nI hh, f_depth, f_ended, f_endTarget, f_endKind, f_endWorth, f_steps, f_says, f_result, f_thrown, f_over, a_kind, a_up, a_length, a_value, a_below, a_open, a_token, a_height, a_target, a_phase, a_how, a_kinds, a_worth, a_values, a_variables, a_begun, a_output)) : wY_attempt_47 post (nI (40 * r + i)) (nI y) (nI (tk_cn (V (40 * r + i)))) (nI (1 + tk_cn (V (40 * r + i)))) 0 f_place (nI (T + 1)) f_held f_depth f_ended f_endTarget f_endKind f_endWorth f_steps f_says f_result f_thrown f_over a_kind a_up a_length a_value a_below a_open a_token a_height a_target a_phase a_how a_kinds a_worth a_values a_variables a_begun a_output := by
  obtain ⟨hok, hj, _⟩ := pg_tok P hr hi
  rw [hk] at hok
  have ev := (E r hr i hi).2
  have hc := tk_cn_le (V (40 * r + i))
  have g : wpY_through post (f_place, nI (T + 1), f_held, f_depth, f_ended, f_endTarget, f_endKind, f_endWorth, f_steps, f_says, f_result, f_thrown, f_over, a_kind, a_up, a_length, a_value, a_below, a_open, a_token, a_height, a_target, a_phase, a_how, a_kinds, a_worth, a_values, a_variables, a_begun, a_output) 0 0 := yo_thr0 hT eH h
  refine br_t (by decide) (br_f (by rw [nI_1]; exact nI_nlt (by omega) (by omega)) ⟨vp_in_nI (by omega) (by decide), br_t ?_ (br_f ?_ g)⟩)
  · rw [nI_clamp (n := 40 * r + i) (by omega), ev]
    rcases (yz_cn hok).2 with q | q
    · exact q.1
    · omega
  · intro z
    have := (nI_eq (a := y) (b := 4) (by omega) (by omega)).mp z
    omega
theorem yz_fin (P : pg_T K V Z a_up a_below LN) (E : pg_E K V a_kind a_value LN) (hr : r < 4) (hi : i < LN r) (hk : K (40 * r + i) = 17) (hy : 1 ≤ y) (hy2 : y ≤ tk_cn (V (40 * r + i)) + 1) (hf : tk_fn (V (40 * r + i)) = 1) (hT : T + 1 < 600) (hh7 : hh < 700) (eT : a_token T = nI (40 * r + i)) (h : post (f_place, nI (T + 1 + 1), nI hh, f_depth, 0, f_endTarget, f_endKind, f_endWorth, f_steps, f_says, f_result, f_thrown, f_over, a_kind, a_up, a_length, a_value, a_below, a_open, upd a_token (T + 1) (nI (40 * r + tr_ca (ro Z r) i (1 + tk_cn (V (40 * r + i))))), upd a_height (T + 1) (nI hh), upd a_target T (vp_nar .short f_endTarget.toInt16.toInt32), upd (upd (upd a_phase T (nI (1 + tk_cn (V (40 * r + i)) + 1))) (T + 1) 0) T 4, upd a_how T (vp_nar .byte f_ended.toInt8.toInt32), upd a_kinds T (vp_nar .byte f_endKind.toInt8.toInt32), upd a_worth T f_endWorth, a_values, a_variables, a_begun, a_output)) : wY_attempt_47 post (nI (40 * r + i)) (nI y) (nI (tk_cn (V (40 * r + i)))) (nI (1 + tk_cn (V (40 * r + i)))) 0 f_place (nI (T + 1)) (nI hh) f_depth f_ended f_endTarget f_endKind f_endWorth f_steps f_says f_result f_thrown f_over a_kind a_up a_length a_value a_below a_open a_token a_height a_target a_phase a_how a_kinds a_worth a_values a_variables a_begun a_output := by
  obtain ⟨hok, hj, _⟩ := pg_tok P hr hi
  have hn : 1 + tk_cn (V (40 * r + i)) < tk_np (K (40 * r + i)) (V (40 * r + i)) := by
    rw [hk]
    unfold tk_np
    rw [if_pos rfl, hf]
    omega
  rw [hk] at hok
  have ev := (E r hr i hi).2
  have hc := tk_cn_le (V (40 * r + i))
  have e : nI (T + 1) - 1 = nI T := nI_pred T
  have hv : vp_in (nI (T + 1) - 1) 600 := by rw [e]; exact vp_in_nI (by omega) (by decide)
  have e2 : nI (T + 1 + 1) - 2 = nI T := pk_sub (a := T + 1 + 1) (b := 2) (by omega)
  refine br_t (by decide) (br_f (by rw [nI_1]; exact nI_nlt (by omega) (by omega)) ⟨vp_in_nI (by omega) (by decide), br_f ?_ (br_f (nI_ge (b := 4) (by omega) (by decide)) ⟨hv, nm_r (e' := upd a_target T (vp_nar .short f_endTarget.toInt16.toInt32)) (by rw [e, nI_clamp (by omega)]) ⟨hv, nm_r (e' := upd a_how T (vp_nar .byte f_ended.toInt8.toInt32)) (by rw [e, nI_clamp (by omega)]) ⟨hv, nm_r (e' := upd a_kinds T (vp_nar .byte f_endKind.toInt8.toInt32)) (by rw [e, nI_clamp (by omega)]) ⟨hv, nm_r (e' := upd a_worth T f_endWorth) (by rw [e, nI_clamp (by omega)]) (yo_op P hr hi hT hh7 eT hn ⟨by rw [e2]; exact vp_in_nI (by omega) (by decide), nm_r ?_ h⟩)⟩⟩⟩⟩)⟩)
  · rw [nI_clamp (n := 40 * r + i) (by omega), ev]
    rcases (yz_cn hok).2 with q | q
    · omega
    · exact q.1
  · rw [e2, nI_clamp (by omega)]
    exact congrArg (upd _ T) (qb_nb (n := 4) (by decide))
theorem yz_back (P : pg_T K V Z a_up a_below LN) (hr : r < 4) (hi : i < LN r) (hT : T < 600) (eH : a_height T = nI hh) (h : post (f_place, nI T, nI hh, f_depth, a_how T, a_target T, a_kinds T, a_worth T, f_steps, f_says, f_result, f_thrown, f_over, a_kind, a_up, a_length, a_value, a_below, a_open, a_token, a_height, a_target, a_phase, a_how, a_kinds, a_worth, a_values, a_variables, a_begun, a_output)) : wY_attempt_47 post (nI (40 * r + i)) (nI 4) (nI (tk_cn (V (40 * r + i)))) (nI (1 + tk_cn (V (40 * r + i)))) 0 f_place (nI (T + 1)) f_held f_depth 0 f_endTarget f_endKind f_endWorth f_steps f_says f_result f_thrown f_over a_kind a_up a_length a_value a_below a_open a_token a_height a_target a_phase a_how a_kinds a_worth a_values a_variables a_begun a_output := by
  have hc := tk_cn_le (V (40 * r + i))
  have e : nI (T + 1) - 1 = nI T := nI_pred T
  have hv : vp_in (nI (T + 1) - 1) 600 := by rw [e]; exact vp_in_nI (by omega) (by decide)
  have g : wpY_through post (f_place, nI (T + 1), f_held, f_depth, a_how T, a_target T, a_kinds T, a_worth T, f_steps, f_says, f_result, f_thrown, f_over, a_kind, a_up, a_length, a_value, a_below, a_open, a_token, a_height, a_target, a_phase, a_how, a_kinds, a_worth, a_values, a_variables, a_begun, a_output) 0 0 := yo_thr0 hT eH h
  exact br_t (by decide) (br_t (by rw [nI_1]; exact nI_lt (b := 4) (by omega) (by decide)) (br_t rfl (br_t rfl ⟨hv, nm_r (by rw [e, nI_clamp (by omega)]) ⟨hv, nm_r (by rw [e, nI_clamp (by omega)]) ⟨hv, nm_r (by rw [e, nI_clamp (by omega)]) ⟨hv, nm_r (by rw [e, nI_clamp (by omega)]) g⟩⟩⟩⟩)))
theorem yz_4out (hT : T < 600) (eH : a_height T = nI hh) (he : ¬ f_ended = 0) (h : post (f_place, nI T, nI hh, f_depth, f_ended, f_endTarget, f_endKind, f_endWorth, f_steps, f_says, f_result, f_thrown, f_over, a_kind, a_up, a_length, a_value, a_below, a_open, a_token, a_height, a_target, a_phase, a_how, a_kinds, a_worth, a_values, a_variables, a_begun, a_output)) : wY_attempt_47 post (nI (40 * r + i)) (nI 4) (nI (tk_cn (V (40 * r + i)))) (nI (1 + tk_cn (V (40 * r + i)))) 0 f_place (nI (T + 1)) f_held f_depth f_ended f_endTarget f_endKind f_endWorth f_steps f_says f_result f_thrown f_over a_kind a_up a_length a_value a_below a_open a_token a_height a_target a_phase a_how a_kinds a_worth a_values a_variables a_begun a_output := by
  have hc := tk_cn_le (V (40 * r + i))
  have g : wpY_through post (f_place, nI (T + 1), f_held, f_depth, f_ended, f_endTarget, f_endKind, f_endWorth, f_steps, f_says, f_result, f_thrown, f_over, a_kind, a_up, a_length, a_value, a_below, a_open, a_token, a_height, a_target, a_phase, a_how, a_kinds, a_worth, a_values, a_variables, a_begun, a_output) 0 0 := yo_thr0 hT eH h
  exact br_t (by decide) (br_t (by rw [nI_1]; exact nI_lt (b := 4) (by omega) (by decide)) (br_t rfl (br_f he g)))
theorem yz_for {post : Int32 → Prop} (P : pg_T K V Z a_up a_below LN) (E : pg_E K V a_kind a_value LN) (hr : r < 4) (hi : i < LN r) (hk : K (40 * r + i) = 17) (h1 : ∀ c, 1 ≤ c → c ≤ tk_cn (V (40 * r + i)) → ct_m V Z r i f_endKind c → (∀ b, 1 ≤ b → b < c → ¬ ct_m V Z r i f_endKind b) → post (nI c)) (h0 : (∀ b, 1 ≤ b → b ≤ tk_cn (V (40 * r + i)) → ¬ ct_m V Z r i f_endKind b) → post 0) : wpY_chosen post (f_place, f_top, f_held, f_depth, f_ended, f_endTarget, f_endKind, f_endWorth, f_steps, f_says, f_result, f_thrown, f_over, a_kind, a_up, a_length, a_value, a_below, a_open, a_token, a_height, a_target, a_phase, a_how, a_kinds, a_worth, a_values, a_variables, a_begun, a_output) (nI (40 * r + i)) (nI (tk_cn (V (40 * r + i)))) := by
  obtain ⟨hok, hj, hi40⟩ := pg_tok P hr hi
  have hc2 := tk_cn_le (V (40 * r + i))
  have ed : nI (40 * r + i) / 40 * 40 = nI (40 * r) := by
    rw [show nI (40 * r + i) / 40 = nI ((40 * r + i) / 40) from pk_div (d := 40) (by omega) (by omega) (by omega), show nI ((40 * r + i) / 40) * 40 = nI ((40 * r + i) / 40 * 40) from pk_mul _ 40]
    exact congrArg nI (by omega)
  have Lp : ∀ d c, 1 ≤ c → c + d = tk_cn (V (40 * r + i)) + 1 → (∀ b, 1 ≤ b → b < c → ¬ ct_m V Z r i f_endKind b) → wY_chosen_2 post (nI (40 * r + i)) (nI (tk_cn (V (40 * r + i)))) f_place f_top f_held f_depth f_ended f_endTarget f_endKind f_endWorth f_steps f_says f_result f_thrown f_over a_kind a_up a_length a_value a_below a_open a_token a_height a_target a_phase a_how a_kinds a_worth a_values a_variables a_begun a_output (d + 1) (nI c) := by
    intro d
    induction d with
    | zero =>
      intro c hc hd hn
      exact br_t (nI_lt (by omega) (by omega)) (h0 (fun b b1 b2 => hn b b1 (by omega)))
    | succ d ih =>
      intro c hc hd hn
      obtain ⟨t1, t2, t3, t4, t5, t6, t7, t8, t9, t10⟩ := tr_catch P hr hi hk hc (by omega)
      have Tr := P r hr (by omega)
      have hL := Tr.2.1
      have tb : a_below (160 * r + (4 * i + c)) = nI (tr_ca (ro Z r) i c) := ((Tr.2.2.2 i hi).2.2.1 c t1).2.1
      have e4 : (4 : Int32) * nI (40 * r + i) + nI c = nI (160 * r + (4 * i + c)) := by
        rw [show (4 : Int32) * nI (40 * r + i) = nI (4 * (40 * r + i)) from pk_mul 4 _, nI_add]
        exact congrArg nI (by omega)
      refine br_f (nI_nlt (by omega) (by omega)) ⟨by decide, by rw [e4]; exact vp_in_nI (by omega) (by decide), nm_r (e' := nI (40 * r + tr_ca (ro Z r) i c)) (by rw [ed, e4, nI_clamp (by omega), tb, nI_add]) ⟨vp_in_nI (by omega) (by decide), nm_r (e' := V (40 * r + tr_ca (ro Z r) i c) &&& 7) (by rw [nI_clamp (by omega), (E r hr _ t2).2]) ?_⟩⟩
      refine br_c (fun z2 => h1 c hc (by omega) (Or.inr z2) hn) (fun z2 => br_c (fun z => h1 c hc (by omega) (Or.inl z) hn) (fun z => nm_r (nI_1 c) (ih (c + 1) (by omega) (by omega) (fun b b1 b2 => ?_))))
      by_cases e : b = c
      · subst e
        exact fun q => q.elim z z2
      · exact hn b b1 (by omega)
  exact ⟨tk_cn (V (40 * r + i)) + 1, Lp _ 1 (by omega) (by omega) (fun b b1 b2 => by omega)⟩
theorem yz_hand (P : pg_T K V Z a_up a_below LN) (E : pg_E K V a_kind a_value LN) (hr : r < 4) (hi : i < LN r) (hk : K (40 * r + i) = 17) {w c m : Nat} (w1 : 1 ≤ w) (w12 : w ≤ 12) (c1 : 1 ≤ c) (c2 : c ≤ tk_cn (V (40 * r + i))) (cm : ct_m V Z r i f_endKind c) (cf : ∀ b, 1 ≤ b → b < c → ¬ ct_m V Z r i f_endKind b) (em : V (40 * r + tr_ca (ro Z r) i c) = nI m) (hm : m < 48) (hT : T + 1 < 600) (hh7 : hh < 700) (eT : a_token T = nI (40 * r + i)) (h : post (f_place, nI (T + 1 + 1), nI hh, nI w, 0, f_endTarget, f_endKind, f_endWorth, f_steps, f_says, f_result, f_thrown, f_over, a_kind, a_up, a_length, a_value, a_below, a_open, upd a_token (T + 1) (nI (40 * r + tr_ca (ro Z r) i c)), upd a_height (T + 1) (nI hh), a_target, upd (upd a_phase T (nI (c + 1))) (T + 1) 0, a_how, a_kinds, a_worth, a_values, upd a_variables (6 * (w - 1) + m / 8) f_endWorth, a_begun, a_output)) : wpY_attempt post (f_place, nI (T + 1), nI hh, nI w, 4, f_endTarget, f_endKind, f_endWorth, f_steps, f_says, f_result, f_thrown, f_over, a_kind, a_up, a_length, a_value, a_below, a_open, a_token, a_height, a_target, a_phase, a_how, a_kinds, a_worth, a_values, a_variables, a_begun, a_output) (nI (40 * r + i)) (nI 1) := by
  obtain ⟨hok, hj, _⟩ := pg_tok P hr hi
  rw [hk] at hok
  have ev := (E r hr i hi).2
  have hc := tk_cn_le (V (40 * r + i))
  have ed : nI (40 * r + i) / 40 * 40 = nI (40 * r) := by
    rw [show nI (40 * r + i) / 40 = nI ((40 * r + i) / 40) from pk_div (d := 40) (by omega) (by omega) (by omega), show nI ((40 * r + i) / 40) * 40 = nI ((40 * r + i) / 40 * 40) from pk_mul _ 40]
    exact congrArg nI (by omega)
  refine ⟨vp_in_nI (by omega) (by decide), nm_r (e' := nI (tk_cn (V (40 * r + i)))) (by rw [nI_clamp (by omega), ev]; exact (yz_cn hok).1) (nm_r (e' := nI (1 + tk_cn (V (40 * r + i)))) (nI_add 1 _) (br_f (by decide) (br_t rfl (br_t rfl (yz_for P E hr hi hk (fun c' a1 a2 a3 a4 => ?_) (fun hn => (hn c c1 c2 cm).elim))))))⟩
  have : c' = c := by
    rcases Nat.lt_trichotomy c' c with z | z | z
    · exact (cf c' a1 z a3).elim
    · exact z
    · exact (a4 c c1 z cm).elim
  subst this
  obtain ⟨t1, t2, t3, t4, t5, t6, t7, t8, t9, t10⟩ := tr_catch P hr hi hk c1 c2
  have Tr := P r hr (by omega)
  have hL := Tr.2.1
  have tb : a_below (160 * r + (4 * i + c')) = nI (tr_ca (ro Z r) i c') := ((Tr.2.2.2 i hi).2.2.1 c' t1).2.1
  have e4 : (4 : Int32) * nI (40 * r + i) + nI c' = nI (160 * r + (4 * i + c')) := by
    rw [show (4 : Int32) * nI (40 * r + i) = nI (4 * (40 * r + i)) from pk_mul 4 _, nI_add]
    exact congrArg nI (by omega)
  have es : nI m >>> ((3 : Int32) &&& 31) = nI (m / 8) := pk_shrN (by omega) _ 3 (by decide)
  have ex : a_value (nI (40 * r + tr_ca (ro Z r) i c')).toNatClampNeg >>> ((3 : Int32) &&& 31) = nI (m / 8) := by rw [nI_clamp (by omega), (E r hr _ t2).2, em, es]
  refine br_f (nI_nle c1 (by omega)) ⟨by decide, by rw [e4]; exact vp_in_nI (by omega) (by decide), nm_r (e' := nI (40 * r + tr_ca (ro Z r) i c')) (by rw [ed, e4, nI_clamp (by omega), tb, nI_add]) ⟨vp_in_nI (by omega) (by decide), ?_, nm_r (e' := upd a_variables (6 * (w - 1) + m / 8) f_endWorth) ?_ (yo_op P hr hi hT hh7 eT t1 h)⟩⟩
  · rw [ex, vy_ix w1]
    exact vp_in_nI (by omega) (by decide)
  · rw [ex, vy_ix w1, nI_clamp (by omega)]
theorem yz_nohand (P : pg_T K V Z a_up a_below LN) (E : pg_E K V a_kind a_value LN) (hr : r < 4) (hi : i < LN r) (hk : K (40 * r + i) = 17) (hn : ∀ b, 1 ≤ b → b ≤ tk_cn (V (40 * r + i)) → ¬ ct_m V Z r i f_endKind b) (h : wY_attempt_47 post (nI (40 * r + i)) (nI 1) (nI (tk_cn (V (40 * r + i)))) (nI (1 + tk_cn (V (40 * r + i)))) 0 f_place f_top f_held f_depth 4 f_endTarget f_endKind f_endWorth f_steps f_says f_result f_thrown f_over a_kind a_up a_length a_value a_below a_open a_token a_height a_target a_phase a_how a_kinds a_worth a_values a_variables a_begun a_output) : wpY_attempt post (f_place, f_top, f_held, f_depth, 4, f_endTarget, f_endKind, f_endWorth, f_steps, f_says, f_result, f_thrown, f_over, a_kind, a_up, a_length, a_value, a_below, a_open, a_token, a_height, a_target, a_phase, a_how, a_kinds, a_worth, a_values, a_variables, a_begun, a_output) (nI (40 * r + i)) (nI 1) := by
  obtain ⟨hok, hj, _⟩ := pg_tok P hr hi
  rw [hk] at hok
  have ev := (E r hr i hi).2
  exact ⟨vp_in_nI (by omega) (by decide), nm_r (e' := nI (tk_cn (V (40 * r + i)))) (by rw [nI_clamp (by omega), ev]; exact (yz_cn hok).1) (nm_r (e' := nI (1 + tk_cn (V (40 * r + i)))) (nI_add 1 _) (br_f (by decide) (br_t rfl (br_t rfl (yz_for P E hr hi hk (fun c' a1 a2 a3 _ => (hn c' a1 a2 a3).elim) (fun _ => h))))))⟩
end
