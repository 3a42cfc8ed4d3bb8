theorem ps_up {k v u bl : Nat → Int32} {d : Nat} (H : ∀ i, i < d → tk_ok (k i) (v i)) (hok : ps_ok k v d) (hy : ∀ j, j < d → ps_y k v u bl j) (i : Nat) (hi : i < d) : u i = -1 ∨ ∃ p, p < i ∧ u i = nI p := by
  obtain ⟨x, xs, e, _⟩ := hok i hi
  rcases ps_mem i x (by rw [e]; exact List.mem_cons_self ..) with rfl | ⟨p, o, rfl, hp, ho⟩
  · exact Or.inl ((hy i hi _ _ e).1 rfl)
  · have hn := tk_np_le (H p (by omega))
    by_cases h4 : 4 * p + o = 4000
    · exact Or.inl ((hy i hi _ _ e).1 h4)
    · refine Or.inr ⟨p, hp, ?_⟩
      rw [((hy i hi _ _ e).2 h4).1]
      exact congrArg nI (by omega)
section
variable {f_place f_top f_held f_depth f_ended f_endTarget f_endKind f_endWorth f_steps f_says f_result f_thrown f_over : Int32} {a_kind a_up a_length a_value a_below a_open a_token a_height a_target a_phase a_how a_kinds a_worth a_values a_variables a_begun a_output : Nat → Int32} {k v : Nat → Int32} {d : Nat}
theorem qy_184n {post : Int32 → SY → Prop} {f : Nat} {x : Int32} (hx : ¬ x = 0) (h : post x (f_place, f_top, f_held, f_depth, f_ended, f_endTarget, f_endKind, f_endWorth, f_steps, f_says, f_result, f_thrown, f_over, a_kind, a_up, upd a_length 4 0, a_value, a_below, a_open, a_token, a_height, a_target, a_phase, a_how, a_kinds, a_worth, a_values, a_variables, a_begun, a_output)) : ∃ n, wY_define_58 post (nI f) x f_place f_top f_held f_depth f_ended f_endTarget f_endKind f_endWorth f_steps f_says f_result f_thrown f_over n 0 a_kind a_up a_length a_value a_below a_open a_token a_height a_target a_phase a_how a_kinds a_worth a_values a_variables a_begun a_output :=
  ⟨1, br_f (by decide) (br_f hx (br_f hx (nm_r (congrArg (upd a_length 4) (qb_nb (n := 0) (by decide))) h)))⟩
theorem qy_define {post : Int32 → SY → Prop} {f : Nat} (hf : f < 4) (hd : d ≤ 40) (hl : a_length 4 = nI d) (ek : ∀ i, i < d → a_kind (160 + i) = k i) (ev : ∀ i, i < d → a_value (160 + i) = v i) (H : ∀ i, i < d → tk_ok (k i) (v i))
    (hA : ∀ (r : Int32) (U B O : Nat → Int32), ps_ans k v d r → r ≠ -1 → (∀ j, j < 160 → U j = a_up j) → (∀ j, j < 640 → B j = a_below j) → post 1 (r, f_top, f_held, f_depth, f_ended, f_endTarget, f_endKind, f_endWorth, f_steps, f_says, f_result, f_thrown, f_over, a_kind, U, upd a_length 4 0, a_value, B, O, a_token, a_height, a_target, a_phase, a_how, a_kinds, a_worth, a_values, a_variables, a_begun, a_output))
    (hB : ∀ (r : Int32) (U B O : Nat → Int32), ps_ok k v d → ps_st k v d = [] → (∀ j, j < 160 → U j = a_up j) → (∀ j, j < 640 → B j = a_below j) → (∀ j, j < d → ps_y k v (fun i => U (160 + i)) (fun j => B (640 + j)) j) → ub_ans (fun i => (k i = 19 ∨ k i = 20) ∧ ¬ ∃ p t, U (160 + i) = nI p ∧ p < i ∧ tr_NL k v (fun i => U (160 + i)) (v i) p t) d r → r ≠ -1 → post 2 (r, f_top, f_held, f_depth, f_ended, f_endTarget, f_endKind, f_endWorth, f_steps, f_says, f_result, f_thrown, f_over, a_kind, U, upd a_length 4 0, a_value, B, O, a_token, a_height, a_target, a_phase, a_how, a_kinds, a_worth, a_values, a_variables, a_begun, a_output))
    (hC : ∀ (U B O : Nat → Int32), ps_ok k v d → ps_st k v d = [] → (∀ j, j < 160 → U j = a_up j) → (∀ j, j < 640 → B j = a_below j) → (∀ j, j < d → ps_y k v (fun i => U (160 + i)) (fun j => B (640 + j)) j) → ub_ans (fun i => (k i = 19 ∨ k i = 20) ∧ ¬ ∃ p t, U (160 + i) = nI p ∧ p < i ∧ tr_NL k v (fun i => U (160 + i)) (v i) p t) d (-1) → post 0 (-1, f_top, f_held, f_depth, f_ended, f_endTarget, f_endKind, f_endWorth, f_steps, f_says, f_result, f_thrown, f_over, cp_n (vp_nar .byte) a_kind 160 (40 * f) 40, cp_n (vp_nar .byte) U 160 (40 * f) 40, upd (upd a_length f (nI d)) 4 0, cp_n id a_value 160 (40 * f) 40, cp_n (vp_nar .short) B 640 (160 * f) 160, O, a_token, a_height, a_target, a_phase, a_how, a_kinds, a_worth, a_values, a_variables, a_begun, a_output)) : wpY_define post (f_place, f_top, f_held, f_depth, f_ended, f_endTarget, f_endKind, f_endWorth, f_steps, f_says, f_result, f_thrown, f_over, a_kind, a_up, a_length, a_value, a_below, a_open, a_token, a_height, a_target, a_phase, a_how, a_kinds, a_worth, a_values, a_variables, a_begun, a_output) (nI f) := by
  unfold wpY_define
  refine qy_outF (n := 4) hf (by decide) (br_t rfl ?_)
  refine qy_shape hd hl ek ev H (fun r U B O ha hU hB' hY => ?_)
  by_cases hr : r = -1
  · subst hr
    have hg : ps_ok k v d ∧ ps_st k v d = [] := by
      rcases ha with ⟨i, hi, _, _, e⟩ | ⟨_, _, e⟩ | ⟨a, b, _⟩
      · exact (qb_ne_m1 (by omega) e.symm).elim
      · exact (qb_ne_m1 (by omega) e.symm).elim
      · exact ⟨a, b⟩
    have hY := hY rfl
    refine br_f (by decide) (br_t rfl (qy_unbound hd hl ek ev (fun _ _ => rfl) (ps_up H hg.1 hY) (fun r hu => ?_)))
    by_cases h1 : r = -1
    · subst h1
      refine br_f (by decide) (qy_copy hf ?_)
      refine br_t rfl ⟨vp_in_nI (by omega) (by decide), nm_r (e' := upd a_length f (nI d)) ?_ (nm_r (e' := upd (upd a_length f (nI d)) 4 0) (congrArg (upd _ 4) (qb_nb (n := 0) (by decide))) (hC U B O hg.1 hg.2 hU hB' hY hu))⟩
      rw [nI_clamp (by omega), hl, qb_nb (by omega)]
    · have hp : 0 ≤ r := by
        rcases hu with ⟨i, hi, _, _, e⟩ | ⟨_, e⟩
        · rw [e]; exact nI_pos' (by omega)
        · exact (h1 e).elim
      exact br_t hp (qy_184n (by decide) (hB r U B O hg.1 hg.2 hU hB' hY hu h1))
  · have hp : 0 ≤ r := by
      rcases ha with ⟨i, hi, _, _, e⟩ | ⟨_, _, e⟩ | ⟨_, _, e⟩
      · rw [e]; exact nI_pos' (by omega)
      · rw [e]; exact nI_pos' (by omega)
      · exact (hr e).elim
    exact br_t hp (br_f (by decide) (qy_184n (by decide) (hA r U B O ha hr hU hB')))
end
theorem qr_row {K V Z KY VY U B K' V' Z' KY' VY' U' B' : Nat → Int32} {r L : Nat} (h : pg_row K V Z KY VY U B r L) (e1 : ∀ i, i < 40 → K' (40 * r + i) = K (40 * r + i)) (e2 : ∀ i, i < 40 → V' (40 * r + i) = V (40 * r + i)) (e3 : ∀ i, i < 40 → Z' (40 * r + i) = Z (40 * r + i)) (e5 : ∀ i, i < 40 → KY' (40 * r + i) = KY (40 * r + i)) (e6 : ∀ i, i < 40 → VY' (40 * r + i) = VY (40 * r + i)) (e7 : ∀ i, i < 40 → U' (40 * r + i) = U (40 * r + i)) (e8 : ∀ i, i < 160 → B' (160 * r + i) = B (160 * r + i)) : pg_row K' V' Z' KY' VY' U' B' r L := by
  have hL := h.1.2.1
  refine ⟨tr_T_congr (fun i hi => e1 _ (by omega)) (fun i hi => e2 _ (by omega)) (fun i hi => e3 _ (by omega)) (fun i hi p _ e => (e7 _ (by omega)).trans e) (fun i hi p _ e => (e8 _ (by omega)).trans e) h.1, fun i hi => ?_⟩
  rw [e1 _ (by omega), e2 _ (by omega), e5 _ (by omega), e6 _ (by omega)]
  exact h.2 i hi
def qr_ln (LN : Nat → Nat) (f d : Nat) : Nat → Nat := fun r => if r = f then d else LN r
theorem qr_ln_s {LN : Nat → Nat} {f d : Nat} : qr_ln LN f d f = d := if_pos rfl
theorem qr_ln_n {LN : Nat → Nat} {f d r : Nat} (h : ¬ r = f) : qr_ln LN f d r = LN r := if_neg h
theorem i_vc_define {k : Nat} {u : SX} {v : SY} (I : i_Rel k u v) (hk : k + 3 ≤ 1536) (v1 : Int32) : wpX_define (fun r u' => wpY_define (fun r' v' => r' = r ∧ i_Rel (k + 3) u' v') v v1) u v1 := by
  obtain ⟨f_expectedCount, f_draftLength, f_latestPlace, f_entryCount, f_working, f_ending, f_endNote, f_endValue, f_sayCount, f_stepCount, f_tooLong, f_latestResult, f_latestKind, a_tokenKind, a_tokenValue, a_tokenSize, a_hasBody, a_expected, a_entryToken, a_entryPhase, a_keptEnding, a_keptNote, a_keptValue, a_variables, a_output⟩ := u
  obtain ⟨f_place, f_top, f_held, f_depth, f_ended, f_endTarget, f_endKind, f_endWorth, f_steps, f_says, f_result, f_thrown, f_over, a_kind, a_up, a_length, a_value, a_below, a_open, a_token, a_height, a_target, a_phase, a_how, a_kinds, a_worth, a_values, b_variables, a_begun, b_output⟩ := v
  have I' := I
  obtain ⟨d, s, LN, rfl, hl, ⟨hd, hdr⟩, hpg, h5⟩ := I
  have no : (v1 < 0 ∨ (¬ v1 < 0 ∧ nI 4 ≤ v1)) → wpX_define (fun r u' => wpY_define (fun r' v' => r' = r ∧ i_Rel (k + 3) u' v') (f_place, f_top, f_held, f_depth, f_ended, f_endTarget, f_endKind, f_endWorth, f_steps, f_says, f_result, f_thrown, f_over, a_kind, a_up, a_length, a_value, a_below, a_open, a_token, a_height, a_target, a_phase, a_how, a_kinds, a_worth, a_values, b_variables, a_begun, b_output) v1) (f_expectedCount, nI d, f_latestPlace, f_entryCount, f_working, f_ending, f_endNote, f_endValue, f_sayCount, f_stepCount, f_tooLong, f_latestResult, f_latestKind, a_tokenKind, a_tokenValue, a_tokenSize, a_hasBody, a_expected, a_entryToken, a_entryPhase, a_keptEnding, a_keptNote, a_keptValue, a_variables, a_output) v1 := by
    intro hv
    have hY : wpY_define (fun r' v' => r' = -1 ∧ i_Rel (k + 3) (f_expectedCount, nI d, f_latestPlace, f_entryCount, f_working, f_ending, f_endNote, f_endValue, f_sayCount, f_stepCount, f_tooLong, f_latestResult, f_latestKind, a_tokenKind, a_tokenValue, a_tokenSize, a_hasBody, a_expected, a_entryToken, a_entryPhase, a_keptEnding, a_keptNote, a_keptValue, a_variables, a_output) v') (f_place, f_top, f_held, f_depth, f_ended, f_endTarget, f_endKind, f_endWorth, f_steps, f_says, f_result, f_thrown, f_over, a_kind, a_up, a_length, a_value, a_below, a_open, a_token, a_height, a_target, a_phase, a_how, a_kinds, a_worth, a_values, b_variables, a_begun, b_output) v1 := by
      unfold wpY_define
      exact qy_outN (n := 4) (by decide) hv (br_f (by decide) ⟨rfl, I'⟩)
    unfold wpX_define
    exact qx_isN hv (br_t rfl hY)
  rcases qb_fun v1 (n := 4) (by decide) with hv | hv | ⟨f, hf, rfl⟩
  · exact no (Or.inl hv)
  · exact no (Or.inr hv)
  have H : ∀ i, i < d → tk_ok (a_tokenKind (160 + i)) (a_tokenValue (160 + i)) := fun i hi => (hdr i hi).1
  have eK : ∀ i, i < d → a_kind (160 + i) = a_tokenKind (160 + i) := fun i hi => (hdr i hi).2.1
  have eV : ∀ i, i < d → a_value (160 + i) = a_tokenValue (160 + i) := fun i hi => (hdr i hi).2.2
  have d0 : ∀ K V KY VY : Nat → Int32, dr_ok K V KY VY 0 := fun _ _ _ _ => ⟨by omega, fun i hi => by omega⟩
  obtain ⟨-, h6, h7, h8, h9, h10, h11, h12, h13⟩ := h5
  refine qx_define (k := fun i => a_tokenKind (160 + i)) (v := fun i => a_tokenValue (160 + i)) hf hd (fun _ _ => rfl) (fun _ _ => rfl) H (fun r ec ex ha hr => ?_) (fun r ec ex Z hok hE hZ hG hu hr => ?_) (fun ec ex Z hok hE hZ hG hu => ?_)
  · refine qy_define hf hd hl eK eV H (fun r' U B O ha' hr' hU hB => ?_) (fun r' U B O hok hE _ _ _ _ _ => ?_) (fun U B O hok hE _ _ _ _ => ?_)
    · exact ⟨rfl, 0, s, LN, rfl, pk_us, d0 _ _ _ _, qr_pg hpg (fun _ _ => rfl) (fun _ _ => rfl) (fun _ _ => rfl) (fun _ _ => rfl) (fun _ _ => rfl) (fun _ _ => rfl) hU hB (fun j hj => pk_un (by omega)), ps_ans_one ha ha', h6, h7, h8, h9, h10, h11, h12, h13⟩
    · exact (hr (ps_ans_one (Or.inr (Or.inr ⟨hok, hE, rfl⟩)) ha)).elim
    · exact (hr (ps_ans_one (Or.inr (Or.inr ⟨hok, hE, rfl⟩)) ha)).elim
  · refine qy_define hf hd hl eK eV H (fun r' U B O ha' hr' hU hB => ?_) (fun r' U B O hok' hE' hU hB hY hu' hr' => ?_) (fun U B O hok' hE' hU hB hY hu' => ?_)
    · exact (hr' (ps_ans_one (Or.inr (Or.inr ⟨hok, hE, rfl⟩)) ha')).elim
    · have hPQ := fun i (hi : i < d) => and_congr_right (a := (a_tokenKind (160 + i) = 19 ∨ a_tokenKind (160 + i) = 20)) (fun _ => not_congr (ps_bound H hd hE hok hG hY (lab := a_tokenValue (160 + i)) hi))
      exact ⟨rfl, 0, s, LN, rfl, pk_us, d0 _ _ _ _, qr_pg hpg (fun _ _ => rfl) (fun _ _ => rfl) hZ (fun _ _ => rfl) (fun _ _ => rfl) (fun _ _ => rfl) hU hB (fun j hj => pk_un (by omega)), ub_one hPQ hu hu', h6, h7, h8, h9, h10, h11, h12, h13⟩
    · have hPQ := fun i (hi : i < d) => and_congr_right (a := (a_tokenKind (160 + i) = 19 ∨ a_tokenKind (160 + i) = 20)) (fun _ => not_congr (ps_bound H hd hE hok hG hY (lab := a_tokenValue (160 + i)) hi))
      exact (hr (ub_one hPQ hu hu').symm).elim
  · refine qy_define hf hd hl eK eV H (fun r' U B O ha' hr' hU hB => ?_) (fun r' U B O hok' hE' hU hB hY hu' hr' => ?_) (fun U B O hok' hE' hU hB hY hu' => ?_)
    · exact (hr' (ps_ans_one (Or.inr (Or.inr ⟨hok, hE, rfl⟩)) ha')).elim
    · have hPQ := fun i (hi : i < d) => and_congr_right (a := (a_tokenKind (160 + i) = 19 ∨ a_tokenKind (160 + i) = 20)) (fun _ => not_congr (ps_bound H hd hE hok hG hY (lab := a_tokenValue (160 + i)) hi))
      exact (hr' (ub_one hPQ hu hu')).elim
    · have hd1 : 1 ≤ d := by
        rcases Nat.eq_zero_or_pos d with z | z
        · subst z; exact nomatch hE
        · exact z
      have hbd : ∀ i, i < d → (a_tokenKind (160 + i) = 19 ∨ a_tokenKind (160 + i) = 20) → ∃ p t, U (160 + i) = nI p ∧ p < i ∧ tr_NL (fun i => a_tokenKind (160 + i)) (fun i => a_tokenValue (160 + i)) (fun i => U (160 + i)) (a_tokenValue (160 + i)) p t := by
        intro i hi hj
        rcases hu' with ⟨i', hi', _, _, e⟩ | ⟨a, _⟩
        · exact (qb_ne_m1 (by omega) e.symm).elim
        · exact Classical.byContradiction (fun z => a i hi ⟨hj, z⟩)
      have T := ps_T H hd1 hd hE hok hG hY hbd
      refine ⟨rfl, 0, s, qr_ln LN f d, rfl, pk_us, d0 _ _ _ _, fun r hr => ?_, rfl, h6, h7, h8, h9, h10, h11, h12, h13⟩
      by_cases er : r = f
      · subst er
        refine Or.inr ⟨by rw [qr_ln_s]; exact hd1, pk_us, ?_, ?_⟩
        · rw [qr_ln_s, pk_un (by omega), pk_us]
        · rw [qr_ln_s]
          refine ⟨tr_T_congr (fun i hi => cp_at hi) (fun i hi => cp_at hi) (fun i hi => cp_at hi) (fun i hi p hp e => ?_) (fun j hj c hc e => ?_) T, fun i hi => ⟨?_, ?_⟩⟩
          · show cp_n _ _ _ _ _ _ = _
            rw [cp_at (by omega)]
            show vp_nar .byte (U (160 + i)) = _
            rw [show U (160 + i) = nI p from e, qb_nb (by omega)]
          · show cp_n _ _ _ _ _ _ = _
            rw [cp_at (by omega)]
            show vp_nar .short (B (640 + j)) = _
            rw [show B (640 + j) = nI c from e, qb_ns (by omega)]
          · rw [cp_at (by omega), cp_at hi, eK i hi]
            obtain ⟨n, e, hn, _⟩ := H i hi
            rw [e, qb_nb (by omega)]
            rfl
          · rw [cp_at (by omega), cp_at hi, eV i hi]
      · rcases hpg r hr with ⟨a, b, c⟩ | ⟨a, b, c, e⟩
        · exact Or.inl ⟨by rw [qr_ln_n er]; exact a, by rw [pk_un er]; exact b, by rw [pk_un (by omega), pk_un er]; exact c⟩
        · refine Or.inr ⟨by rw [qr_ln_n er]; exact a, by rw [pk_un er]; exact b, by rw [qr_ln_n er, pk_un (by omega), pk_un er]; exact c, ?_⟩
          rw [qr_ln_n er]
          refine qr_row e (fun i hi => cp_out (by omega)) (fun i hi => cp_out (by omega)) (fun i hi => (cp_out (by omega)).trans (hZ _ (by omega))) (fun i hi => cp_out (by omega)) (fun i hi => cp_out (by omega)) (fun i hi => (cp_out (by omega)).trans (hU _ (by omega))) (fun i hi => (cp_out (by omega)).trans (hB _ (by omega)))
