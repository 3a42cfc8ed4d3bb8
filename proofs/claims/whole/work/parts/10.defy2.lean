section
variable {f_place f_top f_held f_depth f_ended f_endTarget f_endKind f_endWorth f_steps f_says f_result f_thrown f_over : Int32} {a_kind a_up a_length a_value a_below a_open a_token a_height a_target a_phase a_how a_kinds a_worth a_values a_variables a_begun a_output : Nat → Int32} {k v u : Nat → Int32} {L r : Nat}
/-- Y's way up finds the loop -/
theorem qy_12t {post : Int32 → Prop} (hr : r ≤ 4) (hL : L ≤ 40) (ek : ∀ i, i < L → a_kind (40 * r + i) = k i) (ev : ∀ i, i < L → a_value (40 * r + i) = v i) (eu : ∀ i, i < L → a_up (40 * r + i) = u i) {i : Nat} (hi : i < L) : ∀ n p t, p < L → tr_nl k v u (v i) n p t → post (nI t) → wY_loop_12 post (nI r) (nI i) f_place f_top f_held f_depth f_ended f_endTarget f_endKind f_endWorth f_steps f_says f_result f_thrown f_over a_kind a_up a_length a_value a_below a_open a_token a_height a_target a_phase a_how a_kinds a_worth a_values a_variables a_begun a_output n (nI p) := by
  have e1 : ∀ j, (40 : Int32) * nI r + nI j = nI (40 * r + j) := fun j => by rw [show (40 : Int32) * nI r = nI (40 * r) from pk_mul 40 r, nI_add]
  have ec : ∀ j, j < L → ((40 : Int32) * nI r + nI j).toNatClampNeg = 40 * r + j := fun j hj => by rw [e1 j]; exact nI_clamp (by omega)
  have ei : ∀ j, j < L → vp_in ((40 : Int32) * nI r + nI j) 200 := fun j hj => by rw [e1 j]; exact vp_in_nI (by omega) (by decide)
  intro n
  induction n with
  | zero => intro p t _ h; exact h.elim
  | succ n ih =>
    intro p t hp h hpost
    refine br_f (nI_pos (by omega)) ⟨ei p hp, ?_⟩
    rw [ec p hp, ek p hp, ec i hi, ev p hp, ev i hi]
    rcases h with ⟨⟨m1, m2⟩, rfl⟩ | ⟨hm, q, eq, hq, h⟩
    · exact br_t m1 ⟨ei _ hp, ei i hi, br_t m2 hpost⟩
    · have nx : wY_loop_57 post (wY_loop_12 post (nI r) (nI i) f_place f_top f_held f_depth f_ended f_endTarget f_endKind f_endWorth f_steps f_says f_result f_thrown f_over a_kind a_up a_length a_value a_below a_open a_token a_height a_target a_phase a_how a_kinds a_worth a_values a_variables a_begun a_output n) (nI r) (nI i) (nI p) f_place f_top f_held f_depth f_ended f_endTarget f_endKind f_endWorth f_steps f_says f_result f_thrown f_over a_kind a_up a_length a_value a_below a_open a_token a_height a_target a_phase a_how a_kinds a_worth a_values a_variables a_begun a_output := ⟨ei p hp, nm_r (e' := nI q) (by rw [ec p hp, eu p hp, eq]) (ih q t (by omega) h hpost)⟩
      exact br_c (fun m1 => ⟨ei p hp, ei i hi, br_f (fun m2 => hm ⟨m1, m2⟩) nx⟩) (fun _ => nx)
theorem qy_12f {post : Int32 → Prop} (hr : r ≤ 4) (hL : L ≤ 40) (ek : ∀ i, i < L → a_kind (40 * r + i) = k i) (ev : ∀ i, i < L → a_value (40 * r + i) = v i) (eu : ∀ i, i < L → a_up (40 * r + i) = u i) (hu : ∀ i, i < L → u i = -1 ∨ ∃ p, p < i ∧ u i = nI p) {i : Nat} (hi : i < L) (h0 : post (-1)) : ∀ n p, p < n → p < L → (¬ ∃ t, tr_NL k v u (v i) p t) → wY_loop_12 post (nI r) (nI i) f_place f_top f_held f_depth f_ended f_endTarget f_endKind f_endWorth f_steps f_says f_result f_thrown f_over a_kind a_up a_length a_value a_below a_open a_token a_height a_target a_phase a_how a_kinds a_worth a_values a_variables a_begun a_output (n + 1) (nI p) := by
  have e1 : ∀ j, (40 : Int32) * nI r + nI j = nI (40 * r + j) := fun j => by rw [show (40 : Int32) * nI r = nI (40 * r) from pk_mul 40 r, nI_add]
  have ec : ∀ j, j < L → ((40 : Int32) * nI r + nI j).toNatClampNeg = 40 * r + j := fun j hj => by rw [e1 j]; exact nI_clamp (by omega)
  have ei : ∀ j, j < L → vp_in ((40 : Int32) * nI r + nI j) 200 := fun j hj => by rw [e1 j]; exact vp_in_nI (by omega) (by decide)
  intro n
  induction n with
  | zero => intro p h; omega
  | succ n ih =>
    intro p hpn hp hn
    refine br_f (nI_pos (by omega)) ⟨ei p hp, ?_⟩
    rw [ec p hp, ek p hp, ec i hi, ev p hp, ev i hi]
    have hm : ¬ tr_m k v (v i) p := fun z => hn ⟨p, tr_NL_m z⟩
    have nx : wY_loop_57 post (wY_loop_12 post (nI r) (nI i) f_place f_top f_held f_depth f_ended f_endTarget f_endKind f_endWorth f_steps f_says f_result f_thrown f_over a_kind a_up a_length a_value a_below a_open a_token a_height a_target a_phase a_how a_kinds a_worth a_values a_variables a_begun a_output (n + 1)) (nI r) (nI i) (nI p) f_place f_top f_held f_depth f_ended f_endTarget f_endKind f_endWorth f_steps f_says f_result f_thrown f_over a_kind a_up a_length a_value a_below a_open a_token a_height a_target a_phase a_how a_kinds a_worth a_values a_variables a_begun a_output := by
      refine ⟨ei p hp, nm_r (e' := u p) (by rw [ec p hp, eu p hp]) ?_⟩
      rcases hu p hp with e | ⟨q, hq, e⟩
      · rw [e]
        exact br_t (by decide) h0
      · rw [e]
        exact ih q (by omega) (by omega) (fun ⟨t, ht⟩ => hn ⟨t, tr_NL_p hm e hq ht⟩)
    exact br_c (fun m1 => ⟨ei p hp, ei i hi, br_f (fun m2 => hm ⟨m1, m2⟩) nx⟩) (fun _ => nx)
/-- Y's loop: the loop that is found, or -1 -/
theorem qy_loop {post : Int32 → Prop} (hr : r ≤ 4) (hL : L ≤ 40) (ek : ∀ i, i < L → a_kind (40 * r + i) = k i) (ev : ∀ i, i < L → a_value (40 * r + i) = v i) (eu : ∀ i, i < L → a_up (40 * r + i) = u i) (hu : ∀ i, i < L → u i = -1 ∨ ∃ p, p < i ∧ u i = nI p) {i : Nat} (hi : i < L) (h1 : ∀ p t, u i = nI p → p < i → tr_NL k v u (v i) p t → post (nI t)) (h0 : (¬ ∃ p t, u i = nI p ∧ p < i ∧ tr_NL k v u (v i) p t) → post (-1)) : wpY_loop post (f_place, f_top, f_held, f_depth, f_ended, f_endTarget, f_endKind, f_endWorth, f_steps, f_says, f_result, f_thrown, f_over, a_kind, a_up, a_length, a_value, a_below, a_open, a_token, a_height, a_target, a_phase, a_how, a_kinds, a_worth, a_values, a_variables, a_begun, a_output) (nI r) (nI i) := by
  have e1 : ∀ j, (40 : Int32) * nI r + nI j = nI (40 * r + j) := fun j => by rw [show (40 : Int32) * nI r = nI (40 * r) from pk_mul 40 r, nI_add]
  refine ⟨by rw [e1 i]; exact vp_in_nI (by omega) (by decide), nm_r (e' := u i) (by rw [e1 i, nI_clamp (by omega), eu i hi]) ?_⟩
  by_cases hb : ∃ p t, u i = nI p ∧ p < i ∧ tr_NL k v u (v i) p t
  · obtain ⟨p, t, e, hp, n, hn⟩ := hb
    rw [e]
    exact ⟨n, qy_12t hr hL ek ev eu hi n p t (by omega) hn (h1 p t e hp ⟨n, hn⟩)⟩
  · rcases hu i hi with e | ⟨p, hp, e⟩
    · rw [e]
      exact ⟨1, br_t (by decide) (h0 hb)⟩
    · rw [e]
      exact ⟨L + 1, qy_12f hr hL ek ev eu hu hi (h0 hb) L p (by omega) (by omega) (fun ⟨t, ht⟩ => hb ⟨p, t, e, hp, ht⟩)⟩
theorem qy_unbound {post : Int32 → Prop} (hL : L ≤ 40) (hl : a_length 4 = nI L) (ek : ∀ i, i < L → a_kind (160 + i) = k i) (ev : ∀ i, i < L → a_value (160 + i) = v i) (eu : ∀ i, i < L → a_up (160 + i) = u i) (hu : ∀ i, i < L → u i = -1 ∨ ∃ p, p < i ∧ u i = nI p) (h : ∀ r, ub_ans (fun i => (k i = 19 ∨ k i = 20) ∧ ¬ ∃ p t, u i = nI p ∧ p < i ∧ tr_NL k v u (v i) p t) L r → post r) : wpY_unbound post (f_place, f_top, f_held, f_depth, f_ended, f_endTarget, f_endKind, f_endWorth, f_steps, f_says, f_result, f_thrown, f_over, a_kind, a_up, a_length, a_value, a_below, a_open, a_token, a_height, a_target, a_phase, a_how, a_kinds, a_worth, a_values, a_variables, a_begun, a_output) := by
  have Lp : ∀ m i, i + m = L → (∀ j, j < i → ¬ ((k j = 19 ∨ k j = 20) ∧ ¬ ∃ p t, u j = nI p ∧ p < j ∧ tr_NL k v u (v j) p t)) → wY_unbound_2 post f_place f_top f_held f_depth f_ended f_endTarget f_endKind f_endWorth f_steps f_says f_result f_thrown f_over a_kind a_up a_length a_value a_below a_open a_token a_height a_target a_phase a_how a_kinds a_worth a_values a_variables a_begun a_output (m + 1) (nI i) := by
    intro m
    induction m with
    | zero =>
      intro i hi hn
      have : i = L := by omega
      subst this
      exact br_t (by rw [hl]; exact nI_le (Nat.le_refl _) (by omega)) (h _ (Or.inr ⟨hn, rfl⟩))
    | succ m ih =>
      intro i hi hn
      have nx : ¬ ((k i = 19 ∨ k i = 20) ∧ ¬ ∃ p t, u i = nI p ∧ p < i ∧ tr_NL k v u (v i) p t) → wY_unbound_2 post f_place f_top f_held f_depth f_ended f_endTarget f_endKind f_endWorth f_steps f_says f_result f_thrown f_over a_kind a_up a_length a_value a_below a_open a_token a_height a_target a_phase a_how a_kinds a_worth a_values a_variables a_begun a_output (m + 1) (nI (i + 1)) := fun hc => ih (i + 1) (by omega) (fun q hq => by
        by_cases e : q = i
        · subst e; exact hc
        · exact hn q (by omega))
      have e1 : (160 : Int32) + nI i = nI (160 + i) := nI_add 160 i
      have ec : ((160 : Int32) + nI i).toNatClampNeg = 160 + i := by rw [e1]; exact nI_clamp (by omega)
      have ei : vp_in ((160 : Int32) + nI i) 200 := by rw [e1]; exact vp_in_nI (by omega) (by decide)
      have jump : (k i = 19 ∨ k i = 20) → wY_unbound_42 post (wY_unbound_2 post f_place f_top f_held f_depth f_ended f_endTarget f_endKind f_endWorth f_steps f_says f_result f_thrown f_over a_kind a_up a_length a_value a_below a_open a_token a_height a_target a_phase a_how a_kinds a_worth a_values a_variables a_begun a_output (m + 1)) (nI i) f_place f_top f_held f_depth f_ended f_endTarget f_endKind f_endWorth f_steps f_says f_result f_thrown f_over a_kind a_up a_length a_value a_below a_open a_token a_height a_target a_phase a_how a_kinds a_worth a_values a_variables a_begun a_output := fun hj =>
        qy_loop (r := 4) (by omega) hL ek ev eu hu (i := i) (by omega) (fun p t a b c => br_t (nI_pos' (by have := (tr_NL_le c).1; omega)) (nm_r (nI_1 i) (nx (fun z => z.2 ⟨p, t, a, b, c⟩)))) (fun hb => br_f (by decide) (h _ (Or.inl ⟨i, by omega, ⟨hj, hb⟩, hn, rfl⟩)))
      refine br_f (by rw [hl]; exact nI_ge (by omega) (by omega)) ⟨ei, ?_⟩
      rw [ec, ek i (by omega)]
      exact br_c (fun a => jump (Or.inl a)) (fun a => ⟨ei, br_c (fun b => jump (Or.inr b)) (fun b => nm_r (nI_1 i) (nx (fun z => z.1.elim a b)))⟩)
  exact ⟨L + 1, Lp L 0 (by omega) (fun q hq => by omega)⟩
theorem qy_copy {post : Int32 → SY → Prop} {f : Nat} (hf : f < 4) (h : wY_define_184 post (nI f) 0 f_place f_top f_held f_depth f_ended f_endTarget f_endKind f_endWorth f_steps f_says f_result f_thrown f_over (cp_n (vp_nar .byte) a_kind 160 (40 * f) 40) (cp_n (vp_nar .byte) a_up 160 (40 * f) 40) a_length (cp_n id a_value 160 (40 * f) 40) (cp_n (vp_nar .short) a_below 640 (160 * f) 160) a_open a_token a_height a_target a_phase a_how a_kinds a_worth a_values a_variables a_begun a_output) : ∃ n, wY_define_58 post (nI f) 0 f_place f_top f_held f_depth f_ended f_endTarget f_endKind f_endWorth f_steps f_says f_result f_thrown f_over n 0 a_kind a_up a_length a_value a_below a_open a_token a_height a_target a_phase a_how a_kinds a_worth a_values a_variables a_begun a_output := by
  have In : ∀ (J : Int32 → (Nat → Int32) → (Nat → Int32) → (Nat → Int32) → (Nat → Int32) → (Nat → Int32) → (Nat → Int32) → (Nat → Int32) → (Nat → Int32) → (Nat → Int32) → (Nat → Int32) → (Nat → Int32) → (Nat → Int32) → (Nat → Int32) → (Nat → Int32) → (Nat → Int32) → (Nat → Int32) → (Nat → Int32) → Prop) (K1 U1 V1 : Nat → Int32) (i : Nat), i < 40 → J (nI (i + 1)) K1 U1 a_length V1 (cp_n (vp_nar .short) a_below 640 (160 * f) (4 * i + 4)) a_open a_token a_height a_target a_phase a_how a_kinds a_worth a_values a_variables a_begun a_output → ∀ m o, o + m = 4 → wY_define_134 post J (nI f) 0 (nI i) f_place f_top f_held f_depth f_ended f_endTarget f_endKind f_endWorth f_steps f_says f_result f_thrown f_over (m + 1) (nI o) K1 U1 a_length V1 (cp_n (vp_nar .short) a_below 640 (160 * f) (4 * i + o)) a_open a_token a_height a_target a_phase a_how a_kinds a_worth a_values a_variables a_begun a_output := by
    intro J K1 U1 V1 i hi hJ m
    induction m with
    | zero =>
      intro o ho
      have : o = 4 := by omega
      subst this
      exact br_t (by decide) (nm_r (nI_1 i) hJ)
    | succ m ih =>
      intro o ho
      have e4 : (4 : Int32) * nI i = nI (4 * i) := pk_mul 4 i
      have e6 : (160 : Int32) * nI f = nI (160 * f) := pk_mul 160 f
      have e1 : (640 : Int32) + 4 * nI i + nI o = nI (640 + (4 * i + o)) := by rw [e4, show (640 : Int32) + nI (4 * i) = nI (640 + 4 * i) from nI_add 640 _, nI_add, Nat.add_assoc]
      have e2 : (160 : Int32) * nI f + 4 * nI i + nI o = nI (160 * f + (4 * i + o)) := by rw [e4, e6, nI_add, nI_add, Nat.add_assoc]
      refine br_f (nI_ge (b := 4) (by omega) (by decide)) ⟨by rw [e1]; exact vp_in_nI (by omega) (by decide), by rw [e2]; exact vp_in_nI (by omega) (by decide), nm_r (e' := cp_n (vp_nar .short) a_below 640 (160 * f) (4 * i + (o + 1))) ?_ (nm_r (nI_1 o) (ih (o + 1) (by omega)))⟩
      rw [e1, e2, nI_clamp (by omega), nI_clamp (by omega)]
      exact cp_s (by omega)
  have Lp : ∀ m i, i + m = 40 → wY_define_58 post (nI f) 0 f_place f_top f_held f_depth f_ended f_endTarget f_endKind f_endWorth f_steps f_says f_result f_thrown f_over (m + 1) (nI i) (cp_n (vp_nar .byte) a_kind 160 (40 * f) i) (cp_n (vp_nar .byte) a_up 160 (40 * f) i) a_length (cp_n id a_value 160 (40 * f) i) (cp_n (vp_nar .short) a_below 640 (160 * f) (4 * i)) a_open a_token a_height a_target a_phase a_how a_kinds a_worth a_values a_variables a_begun a_output := by
    intro m
    induction m with
    | zero =>
      intro i hi
      have : i = 40 := by omega
      subst this
      exact br_t (by decide) h
    | succ m ih =>
      intro i hi
      have e1 : (160 : Int32) + nI i = nI (160 + i) := nI_add 160 i
      have ec : ((160 : Int32) + nI i).toNatClampNeg = 160 + i := by rw [e1]; exact nI_clamp (by omega)
      have ei : vp_in ((160 : Int32) + nI i) 200 := by rw [e1]; exact vp_in_nI (by omega) (by decide)
      have e2 : (40 : Int32) * nI f + nI i = nI (40 * f + i) := by rw [show (40 : Int32) * nI f = nI (40 * f) from pk_mul 40 f, nI_add]
      have ec2 : ((40 : Int32) * nI f + nI i).toNatClampNeg = 40 * f + i := by rw [e2]; exact nI_clamp (by omega)
      have ei2 : vp_in ((40 : Int32) * nI f + nI i) 200 := by rw [e2]; exact vp_in_nI (by omega) (by decide)
      refine br_f (nI_ge (b := 40) (by omega) (by decide)) (br_t rfl ⟨ei, ei2, nm_r (e' := cp_n (vp_nar .byte) a_kind 160 (40 * f) (i + 1)) ?_ ⟨ei, ei2, nm_r (e' := cp_n id a_value 160 (40 * f) (i + 1)) ?_ ⟨ei, ei2, nm_r (e' := cp_n (vp_nar .byte) a_up 160 (40 * f) (i + 1)) ?_ ⟨5, ?_⟩⟩⟩⟩)
      · rw [ec, ec2]; exact cp_s (by omega)
      · rw [ec, ec2]; exact cp_s (g := id) (by omega)
      · rw [ec, ec2]; exact cp_s (by omega)
      · exact In _ _ _ _ i (by omega) (ih (i + 1) (by omega)) 4 0 (by omega)
  have := Lp 40 0 (by omega)
  simp only [Nat.mul_zero, cp_0] at this
  exact ⟨41, this⟩
end
