section
variable {f_expectedCount f_draftLength f_latestPlace f_place f_result f_thrown : Int32} {K V Z HB EX KY U LY VY B OP va ou : Nat → Int32} {LN : Nat → Nat} {r i p y c : Nat} {a e0 n0 e n v : Int32} {t0 t s q : Nat} {st : List Fr}
/-- an expression gives an exception on -/
theorem g_x4 (P : pg_T K V Z U B LN) (E : pg_E K V KY VY LN) (W : st_wf K V U LN ((r, i, p, y, c, a, e0, n0, t0) :: st)) (h12 : st_w K ((r, i, p, y, c, a, e0, n0, t0) :: st) ≤ 12) (hq : q ≤ 300) (hs : tk_so (K (40 * r + i)) = 0) (hp : 1 ≤ p) (h8 : ¬ (K (40 * r + i) = 8 ∧ p = 2)) (hn : ∃ m : Nat, m < 4 ∧ n = nI m) : GD f_expectedCount f_draftLength f_latestPlace f_place f_result f_thrown K V Z HB EX KY U LY VY B OP LN ((r, i, p, y, c, a, e0, n0, t0) :: st) 4 n v t s q va ou := by
  obtain ⟨b1, b2, b3, b4, b5, b6, b7, hr, hi⟩ := wf_bd P W h12
  obtain ⟨hok, _, _⟩ := pg_tok P hr hi
  have n17 : ¬ K (40 * r + i) = 17 := fun z => by rw [z] at hs; exact absurd hs (by decide)
  have n12 : ¬ K (40 * r + i) = 12 := fun z => by rw [z] at hs; exact absurd hs (by decide)
  have n13 : ¬ K (40 * r + i) = 13 := fun z => by rw [z] at hs; exact absurd hs (by decide)
  have h9 : ¬ 9 ≤ K (40 * r + i) := fun z => by
    unfold tk_so at hs
    rw [if_neg (Int32.not_lt.mpr z)] at hs
    split at hs <;> omega
  have hc : c = 0 ∧ y = p ∧ p ≤ 2 := by
    rcases W.2.2.2.2.1 with ⟨h, _⟩ | ⟨h, _⟩ | ⟨_, h, h', h''⟩ | ⟨_, _, _, _, h, h', _, h''⟩
    · exact (n17 h).elim
    · exact (n12 h).elim
    · exact ⟨h, h'', h'⟩
    · exact ⟨h, h', h''⟩
  obtain ⟨rfl, rfl, hp2⟩ := hc
  have eR : st_w K ((r, i, y, y, 0, a, e0, n0, t0) :: st) = st_w K st := st_w_n h8
  refine g_popped P (e' := 4) (n' := n) (v' := v) (t' := t) (s' := s) (q' := q) (va' := va) (ou' := ou) W ⟨by decide, fun _ => Or.inr rfl, fun z => absurd z (by decide), fun _ => hn⟩ b6 hq (Nat.le_refl _) (by omega) b2 ?_ (g_y0 b1 ?_)
  · intro ET EP KE KN KV post hS h; obtain ⟨s0, sT, sP, s3, sb⟩ := hS
    rw [eR]
    by_cases k8 : K (40 * r + i) = 8
    · have : y = 1 := by
        have : ¬ y = 2 := fun z => h8 ⟨k8, z⟩
        omega
      subst this
      exact xn_call b2 (by omega) sT sP k8 (xc_1stop b2 (by decide) (h (upd EP st.length _) (fun q hq => pk_un (by omega))))
    · exact xn_plain b2 (by omega) sT sP hok ⟨k8, n12, n13, n17⟩ (xp_stop b2 (by decide) (h (upd EP st.length _) (fun q hq => pk_un (by omega))))
  · intro hd tg kd wo TK HT PH TG HW KS WR VL BG post hS hT h; obtain ⟨y0, yT, yH, yP, yC, yV, y3, yB⟩ := hS
    rw [eR]
    refine yw_x (by omega) (by omega) yT (E r hr i hi).1 yP h9 (ye_in hok hs (fun z => ?_) (by omega) (ye_thrown (by omega) yH (h _ _ _ _ VL (fun _ _ => rfl) ?_)))
    · have : ¬ y = 2 := fun z2 => h8 ⟨z, z2⟩
      omega
    · exact sy_pop_4 (r := r) (i := i) (p := y) (y := y) (c := 0) (a := a) (e0 := e0) (n0 := n0) (t0 := t0) (hT.2.2.2.1 (Or.inr rfl)) (hT.2.2.2.2 rfl)
theorem en_0 : en_pop K V U r i 0 n t := ⟨Or.inl rfl, fun _ => Or.inl rfl, fun z => absurd z (by decide), fun z => absurd z (by decide)⟩
/-- NUM -/
theorem g_num (P : pg_T K V Z U B LN) (E : pg_E K V KY VY LN) (W : st_wf K V U LN ((r, i, 0, 0, 0, a, e0, n0, t0) :: st)) (h12 : st_w K ((r, i, 0, 0, 0, a, e0, n0, t0) :: st) ≤ 12) (hq : q ≤ 300) (hk : K (40 * r + i) = 0) : GD f_expectedCount f_draftLength f_latestPlace f_place f_result f_thrown K V Z HB EX KY U LY VY B OP LN ((r, i, 0, 0, 0, a, e0, n0, t0) :: st) 0 n v t s q va ou := by
  obtain ⟨b1, b2, b3, b4, b5, b6, b7, hr, hi⟩ := wf_bd P W h12
  obtain ⟨hok, _, _⟩ := pg_tok P hr hi
  have hs : tk_so (K (40 * r + i)) = 0 := by rw [hk]; decide
  have eR : st_w K ((r, i, 0, 0, 0, a, e0, n0, t0) :: st) = st_w K st := st_w_n (fun z => by omega)
  have hn : tk_np (K (40 * r + i)) (V (40 * r + i)) = 0 := by rw [hk]; rfl
  refine g_popped P (e' := 0) (n' := n) (v' := V (40 * r + i)) (t' := t) (s' := s) (q' := q) (va' := va) (ou' := ou) W en_0 b6 hq (Nat.le_refl _) (by omega) b2 ?_ (g_y0 b1 ?_)
  · intro ET EP KE KN KV post hS h; obtain ⟨s0, sT, sP, s3, sb⟩ := hS
    rw [eR]
    exact xn_plain b2 (by omega) sT sP hok (by rw [hk]; exact ⟨by decide, by decide, by decide, by decide⟩) (xp_finx P hr hi b2 sT (by omega) (by omega) hs (xf_num (by omega) hk _ (h (upd EP st.length _) (fun q hq => pk_un (by omega)))))
  · intro hd tg kd wo TK HT PH TG HW KS WR VL BG post hS hT h; obtain ⟨y0, yT, yH, yP, yC, yV, y3, yB⟩ := hS
    rw [eR]
    refine yw_x (by omega) (by omega) yT ((E r hr i hi).1.trans hk) yP (by decide) (ye_in (hk ▸ hok) (by decide) (fun z => by omega) (by omega) ?_)
    rw [hk] at hn
    rw [hn]
    refine ye_num (by omega) (by omega) (by omega) yH ?_
    rw [(E r hr i hi).2]
    exact h _ _ _ _ _ (fun q hq => pk_un (by omega)) (sy_pop_x (hd := 0) W hs pk_us)
/-- VAR -/
theorem g_var (P : pg_T K V Z U B LN) (E : pg_E K V KY VY LN) (W : st_wf K V U LN ((r, i, 0, 0, 0, a, e0, n0, t0) :: st)) (h12 : st_w K ((r, i, 0, 0, 0, a, e0, n0, t0) :: st) ≤ 12) (hq : q ≤ 300) (hk : K (40 * r + i) = 1) : GD f_expectedCount f_draftLength f_latestPlace f_place f_result f_thrown K V Z HB EX KY U LY VY B OP LN ((r, i, 0, 0, 0, a, e0, n0, t0) :: st) 0 n v t s q va ou := by
  obtain ⟨b1, b2, b3, b4, b5, b6, b7, hr, hi⟩ := wf_bd P W h12
  obtain ⟨hok, _, _⟩ := pg_tok P hr hi
  have hs : tk_so (K (40 * r + i)) = 0 := by rw [hk]; decide
  have eR : st_w K ((r, i, 0, 0, 0, a, e0, n0, t0) :: st) = st_w K st := st_w_n (fun z => by omega)
  have hn : tk_np (K (40 * r + i)) (V (40 * r + i)) = 0 := by rw [hk]; rfl
  obtain ⟨m, hm, em⟩ := tk_var hok (Or.inl hk)
  refine g_popped P (e' := 0) (n' := n) (v' := va (6 * (st_w K st - 1) + m)) (t' := t) (s' := s) (q' := q) (va' := va) (ou' := ou) W en_0 b6 hq (Nat.le_refl _) (by omega) b2 ?_ (g_y0 b1 ?_)
  · intro ET EP KE KN KV post hS h; obtain ⟨s0, sT, sP, s3, sb⟩ := hS
    rw [eR]
    exact xn_plain b2 (by omega) sT sP hok (by rw [hk]; exact ⟨by decide, by decide, by decide, by decide⟩) (xp_finx P hr hi b2 sT (by omega) (by omega) hs (xf_var (by omega) hk em hm b7 b6 _ (h (upd EP st.length _) (fun q hq => pk_un (by omega)))))
  · intro hd tg kd wo TK HT PH TG HW KS WR VL BG post hS hT h; obtain ⟨y0, yT, yH, yP, yC, yV, y3, yB⟩ := hS
    rw [eR]
    refine yw_x (by omega) (by omega) yT ((E r hr i hi).1.trans hk) yP (by decide) (ye_in (hk ▸ hok) (by decide) (fun z => by omega) (by omega) ?_)
    rw [hk] at hn
    rw [hn]
    exact ye_var (by omega) (by omega) (by omega) yH ((E r hr i hi).2.trans em) hm b7 b6 (h _ _ _ _ _ (fun q hq => pk_un (by omega)) (sy_pop_x (hd := 0) W hs pk_us))
/-- NOT -/
theorem g_not (P : pg_T K V Z U B LN) (E : pg_E K V KY VY LN) (W : st_wf K V U LN ((r, i, 1, 1, 0, a, e0, n0, t0) :: st)) (h12 : st_w K ((r, i, 1, 1, 0, a, e0, n0, t0) :: st) ≤ 12) (hq : q ≤ 300) (hk : K (40 * r + i) = 7) : GD f_expectedCount f_draftLength f_latestPlace f_place f_result f_thrown K V Z HB EX KY U LY VY B OP LN ((r, i, 1, 1, 0, a, e0, n0, t0) :: st) 0 n v t s q va ou := by
  obtain ⟨b1, b2, b3, b4, b5, b6, b7, hr, hi⟩ := wf_bd P W h12
  obtain ⟨hok, _, _⟩ := pg_tok P hr hi
  have hs : tk_so (K (40 * r + i)) = 0 := by rw [hk]; decide
  have eR : st_w K ((r, i, 1, 1, 0, a, e0, n0, t0) :: st) = st_w K st := st_w_n (fun z => by omega)
  have hR : st_h K ((r, i, 1, 1, 0, a, e0, n0, t0) :: st) = st_h K st := st_h_n (fr_b_n (by omega))
  have hn : tk_np (K (40 * r + i)) (V (40 * r + i)) = 1 := by rw [hk]; rfl
  have hcs : fr_cs (K (40 * r + i)) 1 = 0 := by rw [hk]; rfl
  refine g_popped P (e' := 0) (n' := n) (v' := if v = 0 then 1 else 0) (t' := t) (s' := s) (q' := q) (va' := va) (ou' := ou) W en_0 b6 hq (Nat.le_refl _) (by omega) b2 ?_ (g_y0 b1 ?_)
  · intro ET EP KE KN KV post hS h; obtain ⟨s0, sT, sP, s3, sb⟩ := hS
    rw [eR]
    exact xn_plain b2 (by omega) sT sP hok (by rw [hk]; exact ⟨by decide, by decide, by decide, by decide⟩) (xp_finx P hr hi b2 sT (by omega) (by omega) hs (xf_not (by omega) hk _ (h (upd EP st.length _) (fun q hq => pk_un (by omega)))))
  · intro hd tg kd wo TK HT PH TG HW KS WR VL BG post hS hT h; obtain ⟨y0, yT, yH, yP, yC, yV, y3, yB⟩ := hS
    rw [eR]
    have hT1 := hT.1
    have hT2 := hT.2.1 rfl (by omega) hcs
    rw [hR, if_pos ⟨rfl, by omega, hcs⟩] at hT1
    rw [hR] at hT2
    subst hT1
    refine yw_x (by omega) (by omega) yT ((E r hr i hi).1.trans hk) yP (by decide) (ye_in (hk ▸ hok) (by decide) (fun z => by omega) (by omega) ?_)
    rw [hk] at hn
    rw [hn]
    refine ye_not (by omega) (by omega) yH ?_
    rw [hT2]
    exact h _ _ _ _ _ (fun q hq => pk_un (by omega)) (sy_pop_x (hd := 0) W hs pk_us)
/-- ADD to LESS -/
theorem g_two (P : pg_T K V Z U B LN) (E : pg_E K V KY VY LN) (W : st_wf K V U LN ((r, i, 2, 2, 0, a, e0, n0, t0) :: st)) (h12 : st_w K ((r, i, 2, 2, 0, a, e0, n0, t0) :: st) ≤ 12) (hq : q ≤ 300) (hk : K (40 * r + i) = 2 ∨ K (40 * r + i) = 3 ∨ K (40 * r + i) = 4 ∨ K (40 * r + i) = 5 ∨ K (40 * r + i) = 6) (hd0 : K (40 * r + i) = 5 → ¬ v = 0) : GD f_expectedCount f_draftLength f_latestPlace f_place f_result f_thrown K V Z HB EX KY U LY VY B OP LN ((r, i, 2, 2, 0, a, e0, n0, t0) :: st) 0 n v t s q va ou := by
  obtain ⟨b1, b2, b3, b4, b5, b6, b7, hr, hi⟩ := wf_bd P W h12
  obtain ⟨hok, _, _⟩ := pg_tok P hr hi
  have hs : tk_so (K (40 * r + i)) = 0 := by rcases hk with h | h | h | h | h <;> rw [h] <;> decide
  have h8 : ¬ K (40 * r + i) = 8 := by rcases hk with h | h | h | h | h <;> rw [h] <;> decide
  have eR : st_w K ((r, i, 2, 2, 0, a, e0, n0, t0) :: st) = st_w K st := st_w_n (fun z => h8 z.1)
  have hR : st_h K ((r, i, 2, 2, 0, a, e0, n0, t0) :: st) = st_h K st + 1 := by show st_h K st + _ = _; rw [fr_b_2 hk]
  have hn : tk_np (K (40 * r + i)) (V (40 * r + i)) = 2 := by rcases hk with h | h | h | h | h <;> rw [h] <;> rfl
  have hcs : fr_cs (K (40 * r + i)) 2 = 0 := by rcases hk with h | h | h | h | h <;> rw [h] <;> rfl
  refine g_popped P (e' := 0) (n' := n) (v' := ev_2 (K (40 * r + i)) a v) (t' := t) (s' := s) (q' := q) (va' := va) (ou' := ou) W en_0 b6 hq (Nat.le_refl _) (by omega) b2 ?_ (g_y0 b1 ?_)
  · intro ET EP KE KN KV post hS h; obtain ⟨s0, sT, sP, s3, sb⟩ := hS
    rw [eR]
    refine xn_plain b2 (by omega) sT sP hok (by rcases hk with h | h | h | h | h <;> rw [h] <;> exact ⟨by decide, by decide, by decide, by decide⟩) (xp_finx P hr hi b2 sT (by omega) (by omega) hs ?_)
    have h' := h (upd EP st.length (nI (2 + 1))) (fun q hq => pk_un (by omega))
    rw [sb (fr_b_2 hk)]
    rcases hk with hk | hk | hk | hk | hk <;> rw [hk] at h'
    · exact xf_add (by omega) hk _ h'
    · exact xf_sub (by omega) hk _ h'
    · exact xf_mul (by omega) hk _ h'
    · exact xf_div (by omega) hk _ (hd0 hk) h'
    · exact xf_less (by omega) hk _ h'
  · intro hd tg kd wo TK HT PH TG HW KS WR VL BG post hS hT h; obtain ⟨y0, yT, yH, yP, yC, yV, y3, yB⟩ := hS
    rw [eR]
    have hT1 := hT.1
    have hT2 := hT.2.1 rfl (by omega) hcs
    rw [hR, if_pos ⟨rfl, by omega, hcs⟩] at hT1
    rw [hR] at hT2
    subst hT1
    have y5 := yV (fr_b_2 hk)
    refine yw_x (by omega) (by omega) yT (E r hr i hi).1 yP (by rcases hk with h | h | h | h | h <;> rw [h] <;> decide) (ye_in hok hs (fun z => (h8 z).elim) (by omega) ?_)
    rw [hn]
    refine ye_two hk (fun z => by rw [hT2]; exact hd0 z) (by omega) (by omega) yH ?_
    rw [hT2, y5]
    exact h _ _ _ _ _ (fun q hq => pk_un (by omega)) (sy_pop_x (hd := 0) W hs pk_us)
/-- DIV by 0 -/
theorem g_div0 (P : pg_T K V Z U B LN) (E : pg_E K V KY VY LN) (W : st_wf K V U LN ((r, i, 2, 2, 0, a, e0, n0, t0) :: st)) (h12 : st_w K ((r, i, 2, 2, 0, a, e0, n0, t0) :: st) ≤ 12) (hq : q ≤ 300) (hk : K (40 * r + i) = 5) : GD f_expectedCount f_draftLength f_latestPlace f_place f_result f_thrown K V Z HB EX KY U LY VY B OP LN ((r, i, 2, 2, 0, a, e0, n0, t0) :: st) 0 n 0 t s q va ou := by
  obtain ⟨b1, b2, b3, b4, b5, b6, b7, hr, hi⟩ := wf_bd P W h12
  obtain ⟨hok, _, _⟩ := pg_tok P hr hi
  have hk' : K (40 * r + i) = 2 ∨ K (40 * r + i) = 3 ∨ K (40 * r + i) = 4 ∨ K (40 * r + i) = 5 ∨ K (40 * r + i) = 6 := Or.inr (Or.inr (Or.inr (Or.inl hk)))
  have hs : tk_so (K (40 * r + i)) = 0 := by rw [hk]; decide
  have eR : st_w K ((r, i, 2, 2, 0, a, e0, n0, t0) :: st) = st_w K st := st_w_n (fun z => absurd (hk.symm.trans z.1) (by decide))
  have hR : st_h K ((r, i, 2, 2, 0, a, e0, n0, t0) :: st) = st_h K st + 1 := by show st_h K st + _ = _; rw [fr_b_2 hk']
  have hn : tk_np (K (40 * r + i)) (V (40 * r + i)) = 2 := by rw [hk]; rfl
  have hcs : fr_cs (K (40 * r + i)) 2 = 0 := by rw [hk]; rfl
  refine g_popped P (e' := 4) (n' := 0) (v' := a) (t' := t) (s' := s) (q' := q) (va' := va) (ou' := ou) W ⟨by decide, fun _ => Or.inr rfl, fun z => absurd z (by decide), fun _ => ⟨0, by decide, rfl⟩⟩ b6 hq (Nat.le_refl _) (by omega) b2 ?_ (g_y0 b1 ?_)
  · intro ET EP KE KN KV post hS h; obtain ⟨s0, sT, sP, s3, sb⟩ := hS
    rw [eR]
    refine xn_plain b2 (by omega) sT sP hok (by rw [hk]; exact ⟨by decide, by decide, by decide, by decide⟩) (xp_finx P hr hi b2 sT (by omega) (by omega) hs ?_)
    rw [sb (fr_b_2 hk')]
    exact xf_div0 (by omega) hk _ (h (upd EP st.length _) (fun q hq => pk_un (by omega)))
  · intro hd tg kd wo TK HT PH TG HW KS WR VL BG post hS hT h; obtain ⟨y0, yT, yH, yP, yC, yV, y3, yB⟩ := hS
    rw [eR]
    have hT1 := hT.1
    have hT2 := hT.2.1 rfl (by omega) hcs
    rw [hR, if_pos ⟨rfl, by omega, hcs⟩] at hT1
    rw [hR] at hT2
    subst hT1
    have y5 := yV (fr_b_2 hk')
    refine yw_x (by omega) (by omega) yT ((E r hr i hi).1.trans hk) yP (by decide) (ye_in (hk ▸ hok) (by decide) (fun z => absurd z (by decide)) (by omega) ?_)
    rw [hk] at hn
    rw [hn]
    refine ye_div0 hT2 (by omega) (by omega) yH (h _ _ _ _ VL (fun _ _ => rfl) ?_)
    exact sy_pop_4 (r := r) (i := i) (p := 2) (y := 2) (c := 0) (a := a) (e0 := e0) (n0 := n0) (t0 := t0) y5 rfl
/-- CALL: the function has ended -/
theorem g_ret (P : pg_T K V Z U B LN) (E : pg_E K V KY VY LN) (W : st_wf K V U LN ((r, i, 2, 2, 0, a, e0, n0, t0) :: st)) (h12 : st_w K ((r, i, 2, 2, 0, a, e0, n0, t0) :: st) ≤ 12) (hq : q ≤ 300) (hk : K (40 * r + i) = 8) (he : e = 0 ∨ e = 3 ∨ e = 4) (hn4 : e = 4 → ∃ m : Nat, m < 4 ∧ n = nI m) : GD f_expectedCount f_draftLength f_latestPlace f_place f_result f_thrown K V Z HB EX KY U LY VY B OP LN ((r, i, 2, 2, 0, a, e0, n0, t0) :: st) e n v t s q va ou := by
  obtain ⟨b1, b2, b3, b4, b5, b6, b7, hr, hi⟩ := wf_bd P W h12
  obtain ⟨hok, _, _⟩ := pg_tok P hr hi
  have hs : tk_so (K (40 * r + i)) = 0 := by rw [hk]; decide
  have eR : st_w K ((r, i, 2, 2, 0, a, e0, n0, t0) :: st) = st_w K st + 1 := by show _ + _ = _; rw [if_pos ⟨hk, rfl⟩]
  have fk : ¬ (K (40 * r + i) = 2 ∨ K (40 * r + i) = 3 ∨ K (40 * r + i) = 4 ∨ K (40 * r + i) = 5 ∨ K (40 * r + i) = 6) := by rw [hk]; decide
  rcases he with rfl | rfl | rfl
  · refine g_popped P (e' := 0) (n' := n) (v' := 0) (t' := t) (s' := s) (q' := q) (va' := va) (ou' := ou) W en_0 b6 hq (Nat.le_refl _) (by omega) b2 ?_ (g_y0 b1 ?_)
    · intro ET EP KE KN KV post hS h; obtain ⟨s0, sT, sP, s3, sb⟩ := hS
      rw [eR]
      exact xn_call b2 (by omega) sT sP hk (xc_2 b2 (fun _ => (h (upd EP st.length _) (fun q hq => pk_un (by omega)))) (fun z => absurd z (by decide)) (fun z => absurd rfl z))
    · intro hd tg kd wo TK HT PH TG HW KS WR VL BG post hS hT h; obtain ⟨y0, yT, yH, yP, yC, yV, y3, yB⟩ := hS
      rw [eR]
      exact yw_x (by omega) (by omega) yT ((E r hr i hi).1.trans hk) yP (by decide) (yr_in (yr_0 (by omega) (by omega) yH (yB hk rfl) (h _ _ _ _ _ (fun q hq => pk_un (by omega)) (sy_pop_x (hd := 0) W hs pk_us))))
  · refine g_popped P (e' := 0) (n' := n) (v' := v) (t' := t) (s' := s) (q' := q) (va' := va) (ou' := ou) W en_0 b6 hq (Nat.le_refl _) (by omega) b2 ?_ (g_y0 b1 ?_)
    · intro ET EP KE KN KV post hS h; obtain ⟨s0, sT, sP, s3, sb⟩ := hS
      rw [eR]
      exact xn_call b2 (by omega) sT sP hk (xc_2 b2 (fun z => absurd z (by decide)) (fun _ => (h (upd EP st.length _) (fun q hq => pk_un (by omega)))) (fun _ z => absurd rfl z))
    · intro hd tg kd wo TK HT PH TG HW KS WR VL BG post hS hT h; obtain ⟨y0, yT, yH, yP, yC, yV, y3, yB⟩ := hS
      rw [eR]
      have e5 := hT.2.2.2.1 (Or.inl rfl)
      subst e5
      exact yw_x (by omega) (by omega) yT ((E r hr i hi).1.trans hk) yP (by decide) (yr_in (yr_3 (by omega) (by omega) yH (yB hk rfl) (h _ _ _ _ _ (fun q hq => pk_un (by omega)) (sy_pop_x (hd := 0) W hs pk_us))))
  · refine g_popped P (e' := 4) (n' := n) (v' := v) (t' := t) (s' := s) (q' := q) (va' := va) (ou' := ou) W ⟨by decide, fun _ => Or.inr rfl, fun z => absurd z (by decide), hn4⟩ b6 hq (Nat.le_refl _) (by omega) b2 ?_ (g_y0 b1 ?_)
    · intro ET EP KE KN KV post hS h; obtain ⟨s0, sT, sP, s3, sb⟩ := hS
      rw [eR]
      exact xn_call b2 (by omega) sT sP hk (xc_2 b2 (fun z => absurd z (by decide)) (fun z => absurd z (by decide)) (fun _ _ => (h (upd EP st.length _) (fun q hq => pk_un (by omega)))))
    · intro hd tg kd wo TK HT PH TG HW KS WR VL BG post hS hT h; obtain ⟨y0, yT, yH, yP, yC, yV, y3, yB⟩ := hS
      rw [eR]
      refine yw_x (by omega) (by omega) yT ((E r hr i hi).1.trans hk) yP (by decide) (yr_in (yr_4 (by omega) yH (yB hk rfl) (h _ _ _ _ VL (fun _ _ => rfl) ?_)))
      exact sy_pop_4 (r := r) (i := i) (p := 2) (y := 2) (c := 0) (a := a) (e0 := e0) (n0 := n0) (t0 := t0) (hT.2.2.2.1 (Or.inr rfl)) (hT.2.2.2.2 rfl)
end
