/-- row r holds a good body of L tokens, alike on both sides -/
def pg_row (K V Z KY VY U B : Nat → Int32) (r L : Nat) : Prop :=
  tr_T L (fun i => K (40 * r + i)) (fun i => V (40 * r + i)) (fun i => Z (40 * r + i)) (fun i => U (40 * r + i)) (fun j => B (160 * r + j)) ∧ ∀ i, i < L → KY (40 * r + i) = K (40 * r + i) ∧ VY (40 * r + i) = V (40 * r + i)
/-- the four functions: LN r is the length of the body, 0 if there is none -/
def pg_ok (K V Z HB KY VY U B LY : Nat → Int32) (LN : Nat → Nat) : Prop :=
  ∀ r, r < 4 → (LN r = 0 ∧ HB r = 0 ∧ LY r = 0) ∨ (1 ≤ LN r ∧ HB r = 1 ∧ LY r = nI (LN r) ∧ pg_row K V Z KY VY U B r (LN r))
/-- the draft, alike on both sides -/
def dr_ok (K V KY VY : Nat → Int32) (d : Nat) : Prop := d ≤ 40 ∧ ∀ i, i < d → tk_ok (K (160 + i)) (V (160 + i)) ∧ KY (160 + i) = K (160 + i) ∧ VY (160 + i) = V (160 + i)
def i_Rel (_ : Nat) (u : SX) (v : SY) : Prop := match u, v with
  | (f_expectedCount, f_draftLength, f_latestPlace, f_entryCount, f_working, f_ending, f_endNote, f_endValue, f_sayCount, f_stepCount, f_tooLong, f_latestResult, f_latestKind, a_tokenKind, a_tokenValue, a_tokenSize, a_hasBody, a_expected, a_entryToken, a_entryPhase, a_keptEnding, a_keptNote, a_keptValue, a_variables, a_output), (f_place, f_top, f_held, f_depth, f_ended, f_endTarget, f_endKind, f_endWorth, f_steps, f_says, f_result, f_thrown, f_over, a_kind, a_up, a_length, a_value, a_below, a_open, a_token, a_height, a_target, a_phase, a_how, a_kinds, a_worth, a_values, b_variables, a_begun, b_output) => ∃ (d s : Nat) (LN : Nat → Nat), f_draftLength = nI d ∧ a_length 4 = nI d ∧ dr_ok a_tokenKind a_tokenValue a_kind a_value d ∧ pg_ok a_tokenKind a_tokenValue a_tokenSize a_hasBody a_kind a_value a_up a_below a_length LN ∧ f_place = f_latestPlace ∧ f_result = f_latestResult ∧ f_thrown = f_latestKind ∧ f_steps = f_stepCount ∧ f_sayCount = nI s ∧ s ≤ 2000000 ∧ f_says = nI s ∧ b_variables = a_variables ∧ b_output = a_output
theorem i_up {k : Nat} {u : SX} {v : SY} (h : i_Rel k u v) : i_Rel (k + 3) u v := h
theorem i_vc0 : wpX_init (fun u => wpY_init (fun v => i_Rel 0 u v)) :=
  ⟨0, 0, fun _ => 0, rfl, rfl, ⟨by decide, fun i h => absurd h (Nat.not_lt_zero i)⟩, fun r _ => Or.inl ⟨rfl, rfl, rfl⟩, rfl, rfl, rfl, rfl, rfl, by decide, rfl, rfl, rfl⟩
theorem qr_tokY {K V KY VY K' V' KY' VY' : Nat → Int32} {d : Nat} {k v : Int32} (hd : d < 40) (h : dr_ok K V KY VY d) (hk : tk_ok k v) (e1 : K' = upd K (160 + d) k) (e2 : V' = upd V (160 + d) v) (e3 : KY' = upd KY (160 + d) k) (e4 : VY' = upd VY (160 + d) v) : dr_ok K' V' KY' VY' (d + 1) := by
  subst e1 e2 e3 e4
  refine ⟨by omega, fun i hi => ?_⟩
  by_cases e : i = d
  · subst e
    simp only [pk_us]
    exact ⟨hk, trivial, trivial⟩
  · rw [pk_un (by omega), pk_un (by omega), pk_un (by omega), pk_un (by omega)]
    exact h.2 i (by omega)
/-- what lies outside the rows may change -/
theorem qr_pg {K V Z HB KY VY U B LY K' V' Z' HB' KY' VY' U' B' LY' : Nat → Int32} {LN : Nat → Nat} (h : pg_ok K V Z HB KY VY U B LY LN) (e1 : ∀ j, j < 160 → K' j = K j) (e2 : ∀ j, j < 160 → V' j = V j) (e3 : ∀ j, j < 160 → Z' j = Z j) (e4 : ∀ j, j < 4 → HB' j = HB j) (e5 : ∀ j, j < 160 → KY' j = KY j) (e6 : ∀ j, j < 160 → VY' j = VY j) (e7 : ∀ j, j < 160 → U' j = U j) (e8 : ∀ j, j < 640 → B' j = B j) (e9 : ∀ j, j < 4 → LY' j = LY j) : pg_ok K' V' Z' HB' KY' VY' U' B' LY' LN := by
  intro r hr
  rcases h r hr with ⟨a, b, c⟩ | ⟨a, b, c, d, f⟩
  · exact Or.inl ⟨a, (e4 r hr).trans b, (e9 r hr).trans c⟩
  · have hL := d.2.1
    refine Or.inr ⟨a, (e4 r hr).trans b, (e9 r hr).trans c, tr_T_congr (fun i hi => e1 _ (by omega)) (fun i hi => e2 _ (by omega)) (fun i hi => e3 _ (by omega)) (fun i hi p _ e => (e7 _ (by omega)).trans e) (fun i hi p _ e => (e8 _ (by omega)).trans e) d, fun i hi => ?_⟩
    rw [e1 _ (by omega), e2 _ (by omega), e5 _ (by omega), e6 _ (by omega)]
    exact f i hi
theorem qr_up {f : Nat → Int32} {n j : Nat} {x : Int32} {m : Nat} (hn : n = j) (hm : m ≤ j) : ∀ q, q < m → upd f n x q = f q := fun q hq => pk_un (by omega)
theorem i_vc_token {k : Nat} {u : SX} {v : SY} (I : i_Rel k u v) (hk : k + 3 ≤ 1536) (v1 : Int32) (v2 : Int32) : wpX_token (fun r u' => wpY_token (fun r' v' => r' = r ∧ i_Rel (k + 3) u' v') v v1 v2) u v1 v2 := by
  obtain ⟨f_expectedCount, f_draftLength, f_latestPlace, f_entryCount, f_working, f_ending, f_endNote, f_endValue, f_sayCount, f_stepCount, f_tooLong, f_latestResult, f_latestKind, a_tokenKind, a_tokenValue, a_tokenSize, a_hasBody, a_expected, a_entryToken, a_entryPhase, a_keptEnding, a_keptNote, a_keptValue, a_variables, a_output⟩ := u
  obtain ⟨f_place, f_top, f_held, f_depth, f_ended, f_endTarget, f_endKind, f_endWorth, f_steps, f_says, f_result, f_thrown, f_over, a_kind, a_up, a_length, a_value, a_below, a_open, a_token, a_height, a_target, a_phase, a_how, a_kinds, a_worth, a_values, b_variables, a_begun, b_output⟩ := v
  have I' := I
  obtain ⟨d, s, LN, rfl, h4, hdr, hpg, h5⟩ := I
  have hd := hdr.1
  rcases tk_saya v1 v2 with ⟨ok, hx, hy⟩ | ⟨hx, hy⟩
  · by_cases h40 : d = 40
    · refine br_t (by rw [h40]; decide) (hy _ _ (br_f (by decide) (br_t (by rw [h4, h40]; decide) ⟨rfl, I'⟩)))
    · have e1 : (160 : Int32) + nI d = nI (160 + d) := nI_add 160 d
      have ec : ((160 : Int32) + nI d).toNatClampNeg = 160 + d := by rw [e1]; exact nI_clamp (by omega)
      have ei : vp_in ((160 : Int32) + nI d) 200 := by rw [e1]; exact vp_in_nI (by omega) (by decide)
      refine br_f (nI_ge (b := 40) (by omega) (by decide)) (hx _ _ (br_f (by decide) ⟨ei, nm_r (by rw [ec]) ⟨ei, nm_r (by rw [ec]) (nm_r (nI_1 d) ?_)⟩⟩))
      refine hy _ _ (br_f (by decide) (br_f ?_ ⟨by rw [h4]; exact ei, nm_r (e' := upd a_kind (160 + d) v1) ?_ (nm_r (e' := upd a_length 4 (nI (d + 1))) ?_ ⟨by rw [h4]; exact ei, nm_r (e' := upd a_value (160 + d) v2) (by rw [h4, ec]) ?_⟩)⟩))
      · rw [h4]
        exact fun e => h40 ((nI_eq (b := 40) (by omega) (by decide)).mp e)
      · rw [h4, ec]
        obtain ⟨n, rfl, hn, _⟩ := ok
        rw [qb_nb8 (by omega)]
      · rw [h4, nI_1, qb_nb8 (by omega)]
      · refine ⟨rfl, d + 1, s, LN, rfl, pk_us, qr_tokY (by omega) hdr ok rfl rfl rfl rfl, qr_pg hpg (qr_up rfl (by omega)) (qr_up rfl (by omega)) (fun _ _ => rfl) (fun _ _ => rfl) (qr_up rfl (by omega)) (qr_up rfl (by omega)) (fun _ _ => rfl) (fun _ _ => rfl) (qr_up rfl (by omega)), h5⟩
  · by_cases h40 : d = 40
    · exact br_t (by rw [h40]; decide) (hy _ _ ⟨rfl, I'⟩ (br_t rfl ⟨rfl, I'⟩))
    · exact br_f (nI_ge (b := 40) (by omega) (by decide)) (hx _ _ (br_t rfl (hy _ _ ⟨rfl, I'⟩ (br_t rfl ⟨rfl, I'⟩))))
theorem i_vc_place {k : Nat} {u : SX} {v : SY} (I : i_Rel k u v) (hk : k + 3 ≤ 1536) : wpX_place (fun r => wpY_place (fun r' => r' = r ∧ i_Rel (k + 3) u v) v) u := by
  obtain ⟨f_expectedCount, f_draftLength, f_latestPlace, f_entryCount, f_working, f_ending, f_endNote, f_endValue, f_sayCount, f_stepCount, f_tooLong, f_latestResult, f_latestKind, a_tokenKind, a_tokenValue, a_tokenSize, a_hasBody, a_expected, a_entryToken, a_entryPhase, a_keptEnding, a_keptNote, a_keptValue, a_variables, a_output⟩ := u
  obtain ⟨f_place, f_top, f_held, f_depth, f_ended, f_endTarget, f_endKind, f_endWorth, f_steps, f_says, f_result, f_thrown, f_over, a_kind, a_up, a_length, a_value, a_below, a_open, a_token, a_height, a_target, a_phase, a_how, a_kinds, a_worth, a_values, b_variables, a_begun, b_output⟩ := v
  have I' := I
  obtain ⟨d, s, LN, h1, h2, h3, h4, h5, h6, h7, h8, h9, h10, h11, h12, h13⟩ := I
  exact ⟨h5, I'⟩
theorem i_vc_result {k : Nat} {u : SX} {v : SY} (I : i_Rel k u v) (hk : k + 3 ≤ 1536) : wpX_result (fun r => wpY_result (fun r' => r' = r ∧ i_Rel (k + 3) u v) v) u := by
  obtain ⟨f_expectedCount, f_draftLength, f_latestPlace, f_entryCount, f_working, f_ending, f_endNote, f_endValue, f_sayCount, f_stepCount, f_tooLong, f_latestResult, f_latestKind, a_tokenKind, a_tokenValue, a_tokenSize, a_hasBody, a_expected, a_entryToken, a_entryPhase, a_keptEnding, a_keptNote, a_keptValue, a_variables, a_output⟩ := u
  obtain ⟨f_place, f_top, f_held, f_depth, f_ended, f_endTarget, f_endKind, f_endWorth, f_steps, f_says, f_result, f_thrown, f_over, a_kind, a_up, a_length, a_value, a_below, a_open, a_token, a_height, a_target, a_phase, a_how, a_kinds, a_worth, a_values, b_variables, a_begun, b_output⟩ := v
  have I' := I
  obtain ⟨d, s, LN, h1, h2, h3, h4, h5, h6, h7, h8, h9, h10, h11, h12, h13⟩ := I
  exact ⟨h6, I'⟩
theorem i_vc_kind {k : Nat} {u : SX} {v : SY} (I : i_Rel k u v) (hk : k + 3 ≤ 1536) : wpX_kind (fun r => wpY_kind (fun r' => r' = r ∧ i_Rel (k + 3) u v) v) u := by
  obtain ⟨f_expectedCount, f_draftLength, f_latestPlace, f_entryCount, f_working, f_ending, f_endNote, f_endValue, f_sayCount, f_stepCount, f_tooLong, f_latestResult, f_latestKind, a_tokenKind, a_tokenValue, a_tokenSize, a_hasBody, a_expected, a_entryToken, a_entryPhase, a_keptEnding, a_keptNote, a_keptValue, a_variables, a_output⟩ := u
  obtain ⟨f_place, f_top, f_held, f_depth, f_ended, f_endTarget, f_endKind, f_endWorth, f_steps, f_says, f_result, f_thrown, f_over, a_kind, a_up, a_length, a_value, a_below, a_open, a_token, a_height, a_target, a_phase, a_how, a_kinds, a_worth, a_values, b_variables, a_begun, b_output⟩ := v
  have I' := I
  obtain ⟨d, s, LN, h1, h2, h3, h4, h5, h6, h7, h8, h9, h10, h11, h12, h13⟩ := I
  exact ⟨h7, I'⟩
theorem i_vc_steps {k : Nat} {u : SX} {v : SY} (I : i_Rel k u v) (hk : k + 3 ≤ 1536) : wpX_steps (fun r => wpY_steps (fun r' => r' = r ∧ i_Rel (k + 3) u v) v) u := by
  obtain ⟨f_expectedCount, f_draftLength, f_latestPlace, f_entryCount, f_working, f_ending, f_endNote, f_endValue, f_sayCount, f_stepCount, f_tooLong, f_latestResult, f_latestKind, a_tokenKind, a_tokenValue, a_tokenSize, a_hasBody, a_expected, a_entryToken, a_entryPhase, a_keptEnding, a_keptNote, a_keptValue, a_variables, a_output⟩ := u
  obtain ⟨f_place, f_top, f_held, f_depth, f_ended, f_endTarget, f_endKind, f_endWorth, f_steps, f_says, f_result, f_thrown, f_over, a_kind, a_up, a_length, a_value, a_below, a_open, a_token, a_height, a_target, a_phase, a_how, a_kinds, a_worth, a_values, b_variables, a_begun, b_output⟩ := v
  have I' := I
  obtain ⟨d, s, LN, h1, h2, h3, h4, h5, h6, h7, h8, h9, h10, h11, h12, h13⟩ := I
  exact ⟨h8, I'⟩
theorem i_vc_says {k : Nat} {u : SX} {v : SY} (I : i_Rel k u v) (hk : k + 3 ≤ 1536) : wpX_says (fun r => wpY_says (fun r' => r' = r ∧ i_Rel (k + 3) u v) v) u := by
  obtain ⟨f_expectedCount, f_draftLength, f_latestPlace, f_entryCount, f_working, f_ending, f_endNote, f_endValue, f_sayCount, f_stepCount, f_tooLong, f_latestResult, f_latestKind, a_tokenKind, a_tokenValue, a_tokenSize, a_hasBody, a_expected, a_entryToken, a_entryPhase, a_keptEnding, a_keptNote, a_keptValue, a_variables, a_output⟩ := u
  obtain ⟨f_place, f_top, f_held, f_depth, f_ended, f_endTarget, f_endKind, f_endWorth, f_steps, f_says, f_result, f_thrown, f_over, a_kind, a_up, a_length, a_value, a_below, a_open, a_token, a_height, a_target, a_phase, a_how, a_kinds, a_worth, a_values, b_variables, a_begun, b_output⟩ := v
  have I' := I
  obtain ⟨d, s, LN, h1, h2, h3, h4, h5, h6, h7, h8, h9, h10, h11, h12, h13⟩ := I
  exact ⟨h11.trans h9.symm, I'⟩
theorem i_vc_said {k : Nat} {u : SX} {v : SY} (I : i_Rel k u v) (hk : k + 3 ≤ 1536) (v1 : Int32) : wpX_said (fun r => wpY_said (fun r' => r' = r ∧ i_Rel (k + 3) u v) v v1) u v1 := by
  obtain ⟨f_expectedCount, f_draftLength, f_latestPlace, f_entryCount, f_working, f_ending, f_endNote, f_endValue, f_sayCount, f_stepCount, f_tooLong, f_latestResult, f_latestKind, a_tokenKind, a_tokenValue, a_tokenSize, a_hasBody, a_expected, a_entryToken, a_entryPhase, a_keptEnding, a_keptNote, a_keptValue, a_variables, a_output⟩ := u
  obtain ⟨f_place, f_top, f_held, f_depth, f_ended, f_endTarget, f_endKind, f_endWorth, f_steps, f_says, f_result, f_thrown, f_over, a_kind, a_up, a_length, a_value, a_below, a_open, a_token, a_height, a_target, a_phase, a_how, a_kinds, a_worth, a_values, b_variables, a_begun, b_output⟩ := v
  have I' := I
  obtain ⟨d, s, LN, h1, h2, h3, h4, h5, h6, h7, h8, h9, h10, h11, h12, h13⟩ := I
  unfold wpX_said wpY_said
  dsimp only
  rcases qb_fun v1 (n := 40) (by decide) with hv | hv | ⟨m, hm, rfl⟩
  · exact br_t hv (qy_outN (by decide) (Or.inl hv) (br_f (by decide) ⟨rfl, I'⟩))
  · exact br_f hv.1 (br_t hv.2 (qy_outN (by decide) (Or.inr hv) (br_f (by decide) ⟨rfl, I'⟩)))
  · have hi : vp_in (nI m) 40 := vp_in_nI hm (by decide)
    refine br_f (nI_pos (by omega)) (br_f (nI_ge (b := 40) hm (by decide)) (br_c (fun z => ⟨hi, ?_⟩) (fun z => ?_)))
    · exact qy_outF (n := 40) hm (by decide) (br_t rfl (br_t (by rw [h11, ← h9]; exact z) ⟨hi, by rw [h13], I'⟩))
    · exact qy_outF (n := 40) hm (by decide) (br_t rfl (br_f (by rw [h11, ← h9]; exact z) ⟨rfl, I'⟩))
theorem i_vc_drop {k : Nat} {u : SX} {v : SY} (I : i_Rel k u v) (hk : k + 3 ≤ 1536) (v1 : Int32) : wpX_drop (fun r u' => wpY_drop (fun r' v' => r' = r ∧ i_Rel (k + 3) u' v') v v1) u v1 := by
  obtain ⟨f_expectedCount, f_draftLength, f_latestPlace, f_entryCount, f_working, f_ending, f_endNote, f_endValue, f_sayCount, f_stepCount, f_tooLong, f_latestResult, f_latestKind, a_tokenKind, a_tokenValue, a_tokenSize, a_hasBody, a_expected, a_entryToken, a_entryPhase, a_keptEnding, a_keptNote, a_keptValue, a_variables, a_output⟩ := u
  obtain ⟨f_place, f_top, f_held, f_depth, f_ended, f_endTarget, f_endKind, f_endWorth, f_steps, f_says, f_result, f_thrown, f_over, a_kind, a_up, a_length, a_value, a_below, a_open, a_token, a_height, a_target, a_phase, a_how, a_kinds, a_worth, a_values, b_variables, a_begun, b_output⟩ := v
  have I' := I
  obtain ⟨d, s, LN, h1, h2, h3, hpg, h5⟩ := I
  have noY : (v1 < 0 ∨ (¬ v1 < 0 ∧ nI 4 ≤ v1)) → wpY_drop (fun r' v' => r' = 0 ∧ i_Rel (k + 3) (f_expectedCount, f_draftLength, f_latestPlace, f_entryCount, f_working, f_ending, f_endNote, f_endValue, f_sayCount, f_stepCount, f_tooLong, f_latestResult, f_latestKind, a_tokenKind, a_tokenValue, a_tokenSize, a_hasBody, a_expected, a_entryToken, a_entryPhase, a_keptEnding, a_keptNote, a_keptValue, a_variables, a_output) v') (f_place, f_top, f_held, f_depth, f_ended, f_endTarget, f_endKind, f_endWorth, f_steps, f_says, f_result, f_thrown, f_over, a_kind, a_up, a_length, a_value, a_below, a_open, a_token, a_height, a_target, a_phase, a_how, a_kinds, a_worth, a_values, b_variables, a_begun, b_output) v1 := by
    intro hv
    unfold wpY_drop
    exact qy_outN (n := 4) (by decide) hv (br_f (by decide) ⟨rfl, I'⟩)
  have no : (v1 < 0 ∨ (¬ v1 < 0 ∧ nI 4 ≤ v1)) → wpX_drop (fun r u' => wpY_drop (fun r' v' => r' = r ∧ i_Rel (k + 3) u' v') (f_place, f_top, f_held, f_depth, f_ended, f_endTarget, f_endKind, f_endWorth, f_steps, f_says, f_result, f_thrown, f_over, a_kind, a_up, a_length, a_value, a_below, a_open, a_token, a_height, a_target, a_phase, a_how, a_kinds, a_worth, a_values, b_variables, a_begun, b_output) v1) (f_expectedCount, f_draftLength, f_latestPlace, f_entryCount, f_working, f_ending, f_endNote, f_endValue, f_sayCount, f_stepCount, f_tooLong, f_latestResult, f_latestKind, a_tokenKind, a_tokenValue, a_tokenSize, a_hasBody, a_expected, a_entryToken, a_entryPhase, a_keptEnding, a_keptNote, a_keptValue, a_variables, a_output) v1 := by
    intro hv
    have hY := noY hv
    unfold wpX_drop
    exact qx_isN hv (br_t rfl hY)
  rcases qb_fun v1 (n := 4) (by decide) with hv | hv | ⟨m, hm, rfl⟩
  · exact no (Or.inl hv)
  · exact no (Or.inr hv)
  · have ec : (nI m).toNatClampNeg = m := nI_clamp (by omega)
    have hi : vp_in (nI m) 4 := vp_in_nI hm (by decide)
    have hj : vp_in (nI m) 5 := vp_in_nI (by omega) (by decide)
    unfold wpX_drop
    refine qx_isF hm (br_f (by decide) ⟨hi, ?_⟩)
    unfold wpY_drop
    dsimp only
    rcases hpg m hm with ⟨a, b, c⟩ | ⟨a, b, c, e⟩
    · exact br_t (by rw [ec]; exact b) (qy_outF (n := 4) hm (by decide) (br_t rfl ⟨hj, br_t (by rw [ec]; exact c) ⟨rfl, I'⟩⟩))
    · have hL := e.1.2.1
      refine br_f (by rw [ec, b]; decide) ⟨hi, nm_r (e' := upd a_hasBody m 0) (by rw [ec]; rfl) (qy_outF (n := 4) hm (by decide) (br_t rfl ⟨hj, br_f (by rw [ec, c]; exact nI_ne0 a (by omega)) ⟨hj, nm_r (e' := upd a_length m 0) (by rw [ec]; exact congrArg (upd a_length m) (qb_nb (n := 0) (by decide))) ⟨rfl, d, s, fun r => if r = m then 0 else LN r, h1, ?_, h3, fun r hr => ?_, h5⟩⟩⟩))⟩
      · rw [pk_un (by omega)]; exact h2
      · by_cases er : r = m
        · subst er
          exact Or.inl ⟨if_pos rfl, pk_us, pk_us⟩
        · simp only [if_neg er]
          rw [pk_un er, pk_un er]
          exact hpg r hr
