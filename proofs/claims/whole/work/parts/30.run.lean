theorem r_pgT {K V Z HB KY VY U B LY : Nat → Int32} {LN : Nat → Nat} (h : pg_ok K V Z HB KY VY U B LY LN) : pg_T K V Z U B LN := by
  intro r hr h1
  rcases h r hr with ⟨a, _⟩ | ⟨_, _, _, d⟩
  · omega
  · exact d.1
theorem r_pgE {K V Z HB KY VY U B LY : Nat → Int32} {LN : Nat → Nat} (h : pg_ok K V Z HB KY VY U B LY LN) : pg_E K V KY VY LN := by
  intro r hr i hi
  rcases h r hr with ⟨a, _⟩ | ⟨_, _, _, d⟩
  · omega
  · exact d.2 i hi
theorem r_pgH {K V Z HB KY VY U B LY : Nat → Int32} {LN : Nat → Nat} (h : pg_ok K V Z HB KY VY U B LY LN) : pg_H HB LY LN := by
  intro r hr
  rcases h r hr with ⟨_, a, b⟩ | ⟨a, b, c, d⟩
  · exact Or.inl ⟨a, b⟩
  · refine Or.inr ⟨a, b, ?_⟩
    rw [c]
    exact nI_ne0 a (by have := d.1.2.1; omega)
theorem qx_clear {f_expectedCount f_draftLength f_latestPlace f_entryCount f_working f_ending f_endNote f_endValue f_sayCount f_stepCount f_tooLong f_latestResult f_latestKind : Int32} {a_tokenKind a_tokenValue a_tokenSize a_hasBody a_expected a_entryToken a_entryPhase a_keptEnding a_keptNote a_keptValue a_variables a_output : Nat → Int32} {post : SX → Prop} (h : post (f_expectedCount, f_draftLength, f_latestPlace, 0, 0, 0, 0, 0, 0, 0, 0, 0, -1, a_tokenKind, a_tokenValue, a_tokenSize, a_hasBody, a_expected, a_entryToken, a_entryPhase, a_keptEnding, a_keptNote, a_keptValue, a_variables, a_output)) : wpX_clearRun post (f_expectedCount, f_draftLength, f_latestPlace, f_entryCount, f_working, f_ending, f_endNote, f_endValue, f_sayCount, f_stepCount, f_tooLong, f_latestResult, f_latestKind, a_tokenKind, a_tokenValue, a_tokenSize, a_hasBody, a_expected, a_entryToken, a_entryPhase, a_keptEnding, a_keptNote, a_keptValue, a_variables, a_output) := h
theorem i_vc_run {k : Nat} {u : SX} {v : SY} (I : i_Rel k u v) (hk : k + 3 ≤ 1536) (v1 : Int32) (v2 : Int32) : wpX_run (fun r u' => wpY_run (fun r' v' => r' = r ∧ i_Rel (k + 3) u' v') v v1 v2) u v1 v2 := by
  obtain ⟨f_expectedCount, f_draftLength, f_latestPlace, f_entryCount, f_working, f_ending, f_endNote, f_endValue, f_sayCount, f_stepCount, f_tooLong, f_latestResult, f_latestKind, a_tokenKind, a_tokenValue, a_tokenSize, a_hasBody, a_expected, a_entryToken, a_entryPhase, a_keptEnding, a_keptNote, a_keptValue, a_variables, a_output⟩ := u
  obtain ⟨f_place, f_top, f_held, f_depth, f_ended, f_endTarget, f_endKind, f_endWorth, f_steps, f_says, f_result, f_thrown, f_over, a_kind, a_up, a_length, a_value, a_below, a_open, a_token, a_height, a_target, a_phase, a_how, a_kinds, a_worth, a_values, b_variables, a_begun, b_output⟩ := v
  have I' := I
  obtain ⟨d, s, LN, h1, h2, hdr, hpg, h5, h6, h7, h8, h9, h10, h11, h12, h13⟩ := I
  have no : (v1 < 0 ∨ (¬ v1 < 0 ∧ nI 4 ≤ v1)) → wpX_run (fun r u' => wpY_run (fun r' v' => r' = r ∧ i_Rel (k + 3) u' v') (f_place, f_top, f_held, f_depth, f_ended, f_endTarget, f_endKind, f_endWorth, f_steps, f_says, f_result, f_thrown, f_over, a_kind, a_up, a_length, a_value, a_below, a_open, a_token, a_height, a_target, a_phase, a_how, a_kinds, a_worth, a_values, b_variables, a_begun, b_output) v1 v2) (f_expectedCount, f_draftLength, f_latestPlace, f_entryCount, f_working, f_ending, f_endNote, f_endValue, f_sayCount, f_stepCount, f_tooLong, f_latestResult, f_latestKind, a_tokenKind, a_tokenValue, a_tokenSize, a_hasBody, a_expected, a_entryToken, a_entryPhase, a_keptEnding, a_keptNote, a_keptValue, a_variables, a_output) v1 v2 := by
    intro hv
    have hY : wpY_run (fun r' v' => r' = -1 ∧ i_Rel (k + 3) (f_expectedCount, f_draftLength, f_latestPlace, f_entryCount, f_working, f_ending, f_endNote, f_endValue, f_sayCount, f_stepCount, f_tooLong, f_latestResult, f_latestKind, a_tokenKind, a_tokenValue, a_tokenSize, a_hasBody, a_expected, a_entryToken, a_entryPhase, a_keptEnding, a_keptNote, a_keptValue, a_variables, a_output) v') (f_place, f_top, f_held, f_depth, f_ended, f_endTarget, f_endKind, f_endWorth, f_steps, f_says, f_result, f_thrown, f_over, a_kind, a_up, a_length, a_value, a_below, a_open, a_token, a_height, a_target, a_phase, a_how, a_kinds, a_worth, a_values, b_variables, a_begun, b_output) v1 v2 := by
      unfold wpY_run
      exact qy_outN (n := 4) (by decide) hv (br_f (by decide) ⟨rfl, I'⟩)
    unfold wpX_run
    exact qx_isN hv (br_t rfl hY)
  rcases qb_fun v1 (n := 4) (by decide) with hv | hv | ⟨f, hf, rfl⟩
  · exact no (Or.inl hv)
  · exact no (Or.inr hv)
  subst h12 h13
  have P := r_pgT hpg
  have E := r_pgE hpg
  have H := r_pgH hpg
  rcases H f hf with ⟨x1, x2⟩ | ⟨x1, x2, x3⟩
  · -- there is no body
    have hY : ∀ u' : SX, (∀ v' : SY, (∃ (a2 a3 a4 a5 a6 a7 a8 a9 : Int32), v' = (f_place, a2, a3, a4, a5, a6, a7, a8, 0, 0, nI f, 1, a9, a_kind, a_up, a_length, a_value, a_below, a_open, a_token, a_height, a_target, a_phase, a_how, a_kinds, a_worth, a_values, b_variables, a_begun, b_output)) → i_Rel (k + 3) u' v') → wpY_run (fun r' v' => r' = 3 ∧ i_Rel (k + 3) u' v') (f_place, f_top, f_held, f_depth, f_ended, f_endTarget, f_endKind, f_endWorth, f_steps, f_says, f_result, f_thrown, f_over, a_kind, a_up, a_length, a_value, a_below, a_open, a_token, a_height, a_target, a_phase, a_how, a_kinds, a_worth, a_values, b_variables, a_begun, b_output) (nI f) v2 := by
      intro u' hu
      unfold wpY_run
      refine qy_outF (n := 4) hf (by decide) (br_t rfl ?_)
      refine yb_none hf x2 ⟨1, ?_⟩
      exact br_t (by decide) (br_t rfl (br_t rfl (br_f (by decide) (br_t rfl (br_f (by decide) (br_t rfl (br_f (by decide) ⟨rfl, hu _ ⟨_, _, _, _, _, _, _, _, rfl⟩⟩)))))))
    unfold wpX_run
    refine qx_isF hf (br_f (by decide) ?_)
    refine qx_clear ?_
    dsimp only
    refine xb_none hf x1 (br_t rfl ⟨1, ?_⟩)
    refine br_f (by decide) (br_t (show (0 : Int32) ≤ 0 from by decide) (br_t rfl (br_t rfl (hY _ (fun v' hv' => ?_)))))
    obtain ⟨a2, a3, a4, a5, a6, a7, a8, a9, rfl⟩ := hv'
    exact ⟨d, 0, LN, h1, h2, hdr, hpg, h5, rfl, rfl, rfl, rfl, by omega, rfl, rfl, rfl⟩
  · -- it begins
    have T := P f hf x1
    have hs1 : tk_so (a_tokenKind (40 * f + 0)) = 1 := T.2.2.1
    have wf : st_wf a_tokenKind a_tokenValue a_up LN [(f, 0, 0, 0, 0, 0, 0, 0, 0)] := ⟨trivial, hf, x1, tk_so18 (by rw [hs1]; decide), fr_ok0 _ _, by show 0 ≤ _; omega, fun z => by omega, rfl, fun _ => hs1⟩
    have ww : st_w a_tokenKind [(f, 0, 0, 0, 0, 0, 0, 0, 0)] = 1 := st_w0
    have m0 := ph_F_le P hf (i := 0) (by omega) 0
    obtain ⟨R, res, kd, s2, q2, va2, ou2, k2, kX, kY⟩ := s_run (f_expectedCount := f_expectedCount) (f_draftLength := f_draftLength) (f_latestPlace := f_latestPlace) (f_place := f_place) (f_result := f_result) (f_thrown := f_thrown) (EX := a_expected) (OP := a_open) P E H 70000 [(f, 0, 0, 0, 0, 0, 0, 0, 0)] 0 0 0 0 0 1 (vset b_variables 0 v2) b_output 0 ⟨wf, st_top_0, by rw [ww]; omega, by omega⟩ (by show 0 + ph_F a_tokenKind a_tokenValue a_tokenSize f 0 0 + _ ≤ _; omega) (by omega) (by omega)
    unfold wpX_run
    refine qx_isF hf (br_f (by decide) ?_)
    refine qx_clear ?_
    dsimp only
    refine xb_go (q := 0) (w := 0) hf x2 (by omega) (by omega) ?_
    refine br_f (qb_ne_m1 (by omega)) (br_t (show (0 : Int32) < 480 from by decide) ⟨pk_in 0 480 (by omega), nm_r (e' := upd a_entryToken 0 (nI (40 * f))) rfl ⟨pk_in 0 480 (by omega), nm_r (e' := upd a_entryPhase 0 0) rfl (nm_r (e' := nI 1) rfl ?_)⟩⟩)
    have gX := kX (fun r u' => wpY_run (fun r' v' => r' = r ∧ i_Rel (k + 3) u' v') (f_place, f_top, f_held, f_depth, f_ended, f_endTarget, f_endKind, f_endWorth, f_steps, f_says, f_result, f_thrown, f_over, a_kind, a_up, a_length, a_value, a_below, a_open, a_token, a_height, a_target, a_phase, a_how, a_kinds, a_worth, a_values, b_variables, a_begun, b_output) (nI f) v2) (by
      intro g1 g2 g3 g4 g5 g6 ET EP KE KN KV
      have gY := kY (fun r' v' => r' = R ∧ i_Rel (k + 3) (f_expectedCount, f_draftLength, f_latestPlace, g1, g2, g3, g4, g5, nI s2, nI q2, g6, res, kd, a_tokenKind, a_tokenValue, a_tokenSize, a_hasBody, a_expected, ET, EP, KE, KN, KV, va2, ou2) v') (by
        intro j1 j2 j3 j4 j5 j6 j7 j8 TK HT PH TG HW KS WR VL BG
        exact ⟨rfl, d, s2, LN, h1, h2, hdr, hpg, h5, rfl, rfl, rfl, rfl, k2, rfl, rfl, rfl⟩)
      obtain ⟨m, gY⟩ := gY
      unfold wpY_run
      refine qy_outF (n := 4) hf (by decide) (br_t rfl ?_)
      refine yb_go (T := 0) (hh := 0) (q := 0) (w := 0) (by omega) (by omega) hf x3 (by omega) (by omega) ⟨m, ?_⟩
      have g := gY (nI 0) f_endTarget f_endKind f_endWorth (upd a_token 0 (nI (40 * f))) (upd a_height 0 (nI 0)) (upd a_phase 0 0) a_target a_how a_kinds a_worth a_values a_begun ⟨trivial, pk_us, pk_us, pk_us, fun z => (z rfl).elim, fun z => (fr_b0 _ z).elim, fun z => by omega, fun _ z => by omega⟩ ⟨by rw [st_h0, if_neg (fun z => by omega)]; rfl, fun _ z => by omega, fun z => absurd z (by decide), fun z => absurd z (by decide), fun z => absurd z (by decide)⟩
      rw [ww] at g
      exact g)
    obtain ⟨m, gX⟩ := gX
    have g := gX (upd a_entryToken 0 (nI (40 * f))) (upd a_entryPhase 0 0) a_keptEnding a_keptNote a_keptValue ⟨trivial, pk_us, pk_us, fun z => by omega, fun z => (fr_b0 _ z).elim⟩
    rw [ww] at g
    exact ⟨m, g⟩
