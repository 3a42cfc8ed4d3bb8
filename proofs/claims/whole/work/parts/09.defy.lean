def yo_c (x : Nat) : Int32 := if x = 4000 then -1 else nI x
/-- the stack of the places that are wanting -/
def yo_R (op : Nat → Int32) : List Nat → Prop
  | [] => True
  | x :: xs => op xs.length = yo_c x ∧ yo_R op xs
theorem yo_keep {op op' : Nat → Int32} : ∀ l : List Nat, (∀ q, q < l.length → op' q = op q) → yo_R op l → yo_R op' l := by
  intro l
  induction l with
  | nil => intro _ _; trivial
  | cons x xs ih => intro h hr; exact ⟨(h _ (Nat.lt_succ_self _)).trans hr.1, ih (fun q hq => h q (Nat.lt_succ_of_lt hq)) hr.2⟩
/-- j of the n parts of token i are laid from place c on -/
def yo_f (op : Nat → Int32) (c j n i : Nat) : Nat → Int32 := fun q => if c ≤ q ∧ q < c + j then nI (4 * i + (c + n - 1 - q)) else op q
theorem yo_ch {op : Nat → Int32} {i n : Nat} {tl : List Nat} (hi : i < 900) (hn : n ≤ 4) (hR : yo_R op tl) : ∀ m o, o + m = n → yo_R (yo_f op tl.length n n i) (ps_ch i o m ++ tl) := by
  intro m
  induction m with
  | zero => intro o _; exact yo_keep tl (fun q hq => if_neg (by omega)) hR
  | succ m ih =>
    intro o ho
    refine ⟨?_, ih (o + 1) (by omega)⟩
    show yo_f _ _ _ _ _ (ps_ch i (o + 1) m ++ tl).length = _
    rw [List.length_append, ps_ch_len]
    unfold yo_f yo_c
    rw [if_pos (by omega), if_neg (by omega)]
    exact congrArg nI (by omega)
section
variable {f_place f_top f_held f_depth f_ended f_endTarget f_endKind f_endWorth f_steps f_says f_result f_thrown f_over : Int32} {a_kind a_up a_length a_value a_below a_open a_token a_height a_target a_phase a_how a_kinds a_worth a_values a_variables a_begun a_output : Nat → Int32} {k v : Nat → Int32} {d : Nat}
theorem qy_166 {post : Int32 → SY → Prop} {J : Int32 → Int32 → (Nat → Int32) → (Nat → Int32) → (Nat → Int32) → (Nat → Int32) → (Nat → Int32) → (Nat → Int32) → (Nat → Int32) → (Nat → Int32) → (Nat → Int32) → (Nat → Int32) → (Nat → Int32) → (Nat → Int32) → (Nat → Int32) → (Nat → Int32) → (Nat → Int32) → (Nat → Int32) → (Nat → Int32) → Prop} {c n i : Nat} (hc : c + n ≤ 130) (hi : i < 40) (hn : n ≤ 4) (h : J (nI (c + n)) (nI (i + 1)) a_kind a_up a_length a_value a_below (yo_f a_open c n n i) a_token a_height a_target a_phase a_how a_kinds a_worth a_values a_variables a_begun a_output) : ∀ m j, j + m = n → wY_shape_166 post J (nI i) f_place f_top f_held f_depth f_ended f_endTarget f_endKind f_endWorth f_steps f_says f_result f_thrown f_over (m + 1) (nI (c + j)) (nI m + (-1)) a_kind a_up a_length a_value a_below (yo_f a_open c j n i) a_token a_height a_target a_phase a_how a_kinds a_worth a_values a_variables a_begun a_output := by
  intro m
  induction m with
  | zero =>
    intro j hj
    have : j = n := by omega
    subst this
    exact br_t (by decide) (nm_r (nI_1 i) h)
  | succ m ih =>
    intro j hj
    rw [pk_m1]
    refine br_f (nI_pos (by omega)) (nm_r (e' := nI (c + (j + 1))) (nI_1 _) ⟨vp_in_nI (by omega) (by decide), nm_r (e' := yo_f a_open c (j + 1) n i) ?_ (nm_e (ih (j + 1) (by omega)))⟩)
    have e : (4 : Int32) * nI i + nI m = nI (4 * i + m) := by rw [show (4 : Int32) * nI i = nI (4 * i) from pk_mul 4 i, nI_add]
    rw [e, qb_ns16 (by omega), nI_clamp (by omega)]
    funext q
    unfold upd yo_f
    by_cases eq : q = c + j
    · rw [if_pos eq, if_pos (by omega)]
      exact congrArg nI (by omega)
    · rw [if_neg eq]
      by_cases e2 : c ≤ q ∧ q < c + j
      · rw [if_pos e2, if_pos (by omega)]
      · rw [if_neg e2, if_neg (by omega)]
theorem qy_143 {post : Int32 → SY → Prop} {J : Int32 → Int32 → (Nat → Int32) → (Nat → Int32) → (Nat → Int32) → (Nat → Int32) → (Nat → Int32) → (Nat → Int32) → (Nat → Int32) → (Nat → Int32) → (Nat → Int32) → (Nat → Int32) → (Nat → Int32) → (Nat → Int32) → (Nat → Int32) → (Nat → Int32) → (Nat → Int32) → (Nat → Int32) → (Nat → Int32) → Prop} {c i : Nat} {kk vv : Int32} (hk : tk_ok kk vv) (hc : c + tk_np kk vv ≤ 130) (hi : i < 40) (ev : a_value (160 + i) = vv) (h : J (nI (c + tk_np kk vv)) (nI (i + 1)) a_kind a_up a_length a_value a_below (yo_f a_open c (tk_np kk vv) (tk_np kk vv) i) a_token a_height a_target a_phase a_how a_kinds a_worth a_values a_variables a_begun a_output) : wY_shape_143 post J (nI c) (nI i) kk f_place f_top f_held f_depth f_ended f_endTarget f_endKind f_endWorth f_steps f_says f_result f_thrown f_over a_kind a_up a_length a_value a_below a_open a_token a_height a_target a_phase a_how a_kinds a_worth a_values a_variables a_begun a_output := by
  have e1 : (160 : Int32) + nI i = nI (160 + i) := nI_add 160 i
  have ec : ((160 : Int32) + nI i).toNatClampNeg = 160 + i := by rw [e1]; exact nI_clamp (by omega)
  have ei : vp_in ((160 : Int32) + nI i) 200 := by rw [e1]; exact vp_in_nI (by omega) (by decide)
  refine ⟨ei, ?_⟩
  rw [ec, ev]
  refine qy_op hk (nm_r (e' := nI (tk_np kk vv) + (-1)) (by rw [Int32.sub_eq_add_neg]) ⟨tk_np kk vv + 1, ?_⟩)
  have : wY_shape_166 post J (nI i) f_place f_top f_held f_depth f_ended f_endTarget f_endKind f_endWorth f_steps f_says f_result f_thrown f_over (tk_np kk vv + 1) (nI (c + 0)) (nI (tk_np kk vv) + (-1)) a_kind a_up a_length a_value a_below (yo_f a_open c 0 (tk_np kk vv) i) a_token a_height a_target a_phase a_how a_kinds a_worth a_values a_variables a_begun a_output := qy_166 hc hi (tk_np_le hk) h (tk_np kk vv) 0 (by omega)
  have e0 : yo_f a_open c 0 (tk_np kk vv) i = a_open := by funext q; exact if_neg (by omega)
  rw [e0] at this
  exact this
theorem qy_shape {post : Int32 → SY → Prop} (hd : d ≤ 40) (hl : a_length 4 = nI d) (ek : ∀ i, i < d → a_kind (160 + i) = k i) (ev : ∀ i, i < d → a_value (160 + i) = v i) (H : ∀ i, i < d → tk_ok (k i) (v i)) (h : ∀ (r : Int32) (U B O : Nat → Int32), ps_ans k v d r → (∀ j, j < 160 → U j = a_up j) → (∀ j, j < 640 → B j = a_below j) → (r = -1 → ∀ j, j < d → ps_y k v (fun i => U (160 + i)) (fun j => B (640 + j)) j) → post r (f_place, f_top, f_held, f_depth, f_ended, f_endTarget, f_endKind, f_endWorth, f_steps, f_says, f_result, f_thrown, f_over, a_kind, U, a_length, a_value, B, O, a_token, a_height, a_target, a_phase, a_how, a_kinds, a_worth, a_values, a_variables, a_begun, a_output)) : wpY_shape post (f_place, f_top, f_held, f_depth, f_ended, f_endTarget, f_endKind, f_endWorth, f_steps, f_says, f_result, f_thrown, f_over, a_kind, a_up, a_length, a_value, a_below, a_open, a_token, a_height, a_target, a_phase, a_how, a_kinds, a_worth, a_values, a_variables, a_begun, a_output) := by
  have Lp : ∀ m i (U B O : Nat → Int32), i + m = d → ps_ok k v i → yo_R O (ps_st k v i) → (∀ j, j < 160 → U j = a_up j) → (∀ j, j < 640 → B j = a_below j) → (∀ j, j < i → ps_y k v (fun i => U (160 + i)) (fun j => B (640 + j)) j) → wY_shape_11 post f_place f_top f_held f_depth f_ended f_endTarget f_endKind f_endWorth f_steps f_says f_result f_thrown f_over (m + 1) (nI (ps_st k v i).length) (nI i) a_kind U a_length a_value B O a_token a_height a_target a_phase a_how a_kinds a_worth a_values a_variables a_begun a_output := by
    intro m
    induction m with
    | zero =>
      intro i U B O hi hok hR hU hB hY
      have : i = d := by omega
      subst this
      have hlen := ps_len H i (Nat.le_refl _) hok
      refine br_t (by rw [hl]; exact nI_le (Nat.le_refl _) (by omega)) ?_
      cases e : ps_st k v i with
      | nil => exact br_t (by decide) (h _ _ _ _ (Or.inr (Or.inr ⟨hok, e, rfl⟩)) hU hB (fun _ => hY))
      | cons x xs =>
        rw [e] at hlen
        refine br_f (nI_nle (Nat.succ_pos _) (by show xs.length + 1 < _; have : xs.length + 1 ≤ 1 + 3 * i := hlen; omega)) (h _ _ _ _ (Or.inr (Or.inl ⟨hok, (by rw [e]; exact fun z => nomatch z), hl⟩)) hU hB (fun z => ?_))
        rw [hl] at z
        exact (qb_ne_m1 (by omega) z).elim
    | succ m ih =>
      intro i U B O hi hok hR hU hB hY
      have hlen := ps_len H i (by omega) hok
      have e1 : (160 : Int32) + nI i = nI (160 + i) := nI_add 160 i
      have ec : ((160 : Int32) + nI i).toNatClampNeg = 160 + i := by rw [e1]; exact nI_clamp (by omega)
      have ei : vp_in ((160 : Int32) + nI i) 200 := by rw [e1]; exact vp_in_nI (by omega) (by decide)
      have hk := H i (by omega)
      have nm : nI i = -1 → False := qb_ne_m1 (by omega)
      refine br_f (by rw [hl]; exact nI_ge (by omega) (by omega)) ?_
      cases e : ps_st k v i with
      | nil => exact br_t rfl (h _ _ _ _ (Or.inl ⟨i, by omega, hok, (by rintro ⟨x, xs, e', _⟩; rw [e] at e'; exact nomatch e'), rfl⟩) hU hB (fun z => (nm z).elim))
      | cons x xs =>
        rw [e] at hlen hR
        have hl' : xs.length + 1 ≤ 1 + 3 * i := hlen
        have e3 : nI (x :: xs).length + (-1) = nI xs.length := pk_m1 xs.length
        have hw : ps_wn k v x < 3 := ps_wn_lt
        have hs : tk_so (k i) < 3 := tk_so_lt
        have h4 := tk_np_le hk
        have bad : tk_so (k i) ≠ ps_wn k v x → post (nI i) (f_place, f_top, f_held, f_depth, f_ended, f_endTarget, f_endKind, f_endWorth, f_steps, f_says, f_result, f_thrown, f_over, a_kind, U, a_length, a_value, B, O, a_token, a_height, a_target, a_phase, a_how, a_kinds, a_worth, a_values, a_variables, a_begun, a_output) := by
          intro hf
          refine h _ _ _ _ (Or.inl ⟨i, by omega, hok, ?_, rfl⟩) hU hB (fun z => (nm z).elim)
          rintro ⟨y, ys, e', hy⟩
          rw [e] at e'
          have := (List.cons.inj e').1
          subst this
          exact hf hy
        have cont : ∀ (U' B' : Nat → Int32), tk_so (k i) = ps_wn k v x → (∀ j, j < 160 → U' j = a_up j) → (∀ j, j < 640 → B' j = a_below j) → (∀ j, j < i + 1 → ps_y k v (fun i => U' (160 + i)) (fun j => B' (640 + j)) j) → wY_shape_143 post (wY_shape_11 post f_place f_top f_held f_depth f_ended f_endTarget f_endKind f_endWorth f_steps f_says f_result f_thrown f_over (m + 1)) (nI xs.length) (nI i) (k i) f_place f_top f_held f_depth f_ended f_endTarget f_endKind f_endWorth f_steps f_says f_result f_thrown f_over a_kind U' a_length a_value B' O a_token a_height a_target a_phase a_how a_kinds a_worth a_values a_variables a_begun a_output := by
          intro U' B' hf hU' hB' hY'
          refine qy_143 hk (by omega) (by omega) (ev i (by omega)) ?_
          have el : xs.length + tk_np (k i) (v i) = (ps_st k v (i + 1)).length := by
            show _ = (ps_ch i 0 _ ++ (ps_st k v i).tail).length
            rw [List.length_append, ps_ch_len, e]
            show _ = _ + xs.length
            omega
          rw [el]
          refine ih (i + 1) _ _ _ (by omega) (fun j hj => ?_) ?_ hU' hB' hY'
          · by_cases ej : j = i
            · subst ej; exact ⟨x, xs, e, hf⟩
            · exact hok j (by omega)
          · have := yo_ch (i := i) (by omega) h4 hR.2 (tk_np (k i) (v i)) 0 (by omega)
            show yo_R _ (ps_ch i 0 _ ++ (ps_st k v i).tail)
            rw [e]
            exact this
        have hxl := ps_lt H i (by omega) x (by rw [e]; exact List.mem_cons_self ..)
        refine br_f (nI_ne0 (Nat.succ_pos _) (by show xs.length + 1 < _; omega)) (nm_r e3 ⟨vp_in_nI (by omega) (by decide), nm_r (e' := yo_c x) (by rw [nI_clamp (by omega)]; exact hR.1) ?_⟩)
        by_cases hx : x = 4000
        · subst hx
          refine br_f (by decide) ⟨ei, nm_r (e' := k i) (by rw [ec, ek i (by omega)]) (br_f (by decide) ?_)⟩
          refine qy_sort hk ?_
          by_cases hf : tk_so (k i) = ps_wn k v 4000
          · refine br_t (by rw [hf]; rfl) ⟨ei, nm_r (e' := upd U (160 + i) (-1)) (by rw [ec, qb_m1b]) (br_t (by decide) (cont _ _ hf (fun j hj => (pk_un (by omega)).trans (hU j hj)) hB (fun j hj => ?_)))⟩
            intro y ys ey
            by_cases ej : j = i
            · subst ej
              have := (List.cons.inj (e.symm.trans ey)).1
              exact ⟨fun _ => pk_us, fun z => (z this.symm).elim⟩
            · have := hY j (by omega) y ys ey
              show (_ → upd U (160 + i) (-1) (160 + j) = _) ∧ (_ → upd U (160 + i) (-1) (160 + j) = _ ∧ _)
              rw [pk_un (by omega)]
              exact this
          · refine br_f (fun z => hf ?_) (bad hf)
            have : (1 : Nat) = tk_so (k i) := (nI_eq (a := 1) (by omega) (by omega)).mp z
            rw [← this]
            rfl
        · have hx4 : x < 4 * i := hxl.resolve_left hx
          have eyc : yo_c x = nI x := if_neg hx
          rw [eyc]
          have ed : nI x / 4 = nI (x / 4) := pk_div (d := 4) (by omega) (by omega) (by omega)
          have er : nI x - nI x / 4 * 4 = nI (x % 4) := pk_rem (d := 4) (by omega) (by omega) (by omega)
          have e1p : (160 : Int32) + nI (x / 4) = nI (160 + x / 4) := nI_add 160 _
          have ecp : ((160 : Int32) + nI (x / 4)).toNatClampNeg = 160 + x / 4 := by rw [e1p]; exact nI_clamp (by omega)
          have eip : vp_in ((160 : Int32) + nI (x / 4)) 200 := by rw [e1p]; exact vp_in_nI (by omega) (by decide)
          have ewn : ps_wn k v x = tk_wt (k (x / 4)) (v (x / 4)) (x % 4) := if_neg hx
          refine br_t (nI_pos' (by omega)) ⟨by decide, ?_⟩
          rw [ed]
          refine ⟨ei, nm_r (e' := k i) (by rw [ec, ek i (by omega)]) (br_t (nI_pos' (by omega)) ⟨eip, eip, by decide, ?_⟩)⟩
          rw [ecp, ← ed, er, ed, ek _ (by omega), ev _ (by omega)]
          refine qy_want (H _ (by omega)) (by omega) ?_
          rw [← ewn]
          refine qy_sort hk ?_
          have e6 : (640 : Int32) + nI x = nI (640 + x) := nI_add 640 x
          by_cases hf : tk_so (k i) = ps_wn k v x
          · refine br_t (by rw [hf]) ⟨ei, nm_r (e' := upd U (160 + i) (nI (x / 4))) (by rw [ec, qb_nb8 (by omega)]) (br_f (nI_pos (by omega)) ⟨by rw [e6]; exact vp_in_nI (by omega) (by decide), nm_r (e' := upd B (640 + x) (nI i)) (by rw [e6, nI_clamp (by omega), qb_ns16 (by omega)]) (cont _ _ hf (fun j hj => (pk_un (by omega)).trans (hU j hj)) (fun j hj => (pk_un (by omega)).trans (hB j hj)) (fun j hj => ?_))⟩)⟩
            intro y ys ey
            show (_ → upd U (160 + i) _ (160 + j) = _) ∧ (_ → upd U (160 + i) _ (160 + j) = _ ∧ upd B (640 + x) _ (640 + y) = _)
            by_cases ej : j = i
            · subst ej
              have := (List.cons.inj (e.symm.trans ey)).1
              subst this
              exact ⟨fun z => (hx z).elim, fun _ => ⟨pk_us, pk_us⟩⟩
            · have hyy := hY j (by omega) y ys ey
              have hne : y ≠ x := by
                intro z
                subst z
                exact ej (ps_once H hd (by omega) (by omega) e ey)
              rw [pk_un (by omega), pk_un (by omega)]
              exact hyy
          · refine br_f (fun z => hf ?_) (bad hf)
            exact ((nI_eq (by omega) (by omega)).mp z).symm
  unfold wpY_shape
  refine nm_r (e' := upd a_open 0 (-1)) (by rw [qb_m1s]) ⟨d + 1, ?_⟩
  exact Lp d 0 a_up a_below _ (by omega) (fun j hj => by omega) ⟨pk_us, trivial⟩ (fun _ _ => rfl) (fun _ _ => rfl) (fun j hj => by omega)
end
