section
variable {f_expectedCount f_draftLength f_latestPlace f_place f_result f_thrown : Int32} {K V Z HB EX KY U LY VY B OP va ou : Nat → Int32} {LN : Nat → Nat} {r i p y c : Nat} {a e0 n0 e n v : Int32} {t0 t s q : Nat} {st : List Fr}
/-- a statement that is no loop of that label gives the ending on -/
theorem en_pass (he : en_ok K V U r i e n t) (hs : tk_so (K (40 * r + i)) = 1) (hm : (e = 1 ∨ e = 2) → ¬ tr_m (ro K r) (ro V r) n i) : en_pop K V U r i e n t := ⟨he.1, fun z => by omega, fun z => ⟨he.2.1 z, hm z⟩, he.2.2⟩
/-- a statement gives an ending on -/
theorem g_out (P : pg_T K V Z U B LN) (E : pg_E K V KY VY LN) (W : st_wf K V U LN ((r, i, p, y, 0, a, e0, n0, t0) :: st)) (h12 : st_w K ((r, i, p, y, 0, a, e0, n0, t0) :: st) ≤ 12) (hq : q ≤ 300) (he : en_ok K V U r i e n t) (h0 : ¬ e = 0) (hk : K (40 * r + i) = 10 ∨ K (40 * r + i) = 11 ∨ K (40 * r + i) = 14 ∨ K (40 * r + i) = 16 ∨ K (40 * r + i) = 21 ∨ (K (40 * r + i) = 12 ∧ (p = 1 ∨ p = 2))) (hy : y = 1 ∨ y = 2 ∨ y = 3) : GD f_expectedCount f_draftLength f_latestPlace f_place f_result f_thrown K V Z HB EX KY U LY VY B OP LN ((r, i, p, y, 0, a, e0, n0, t0) :: st) e n v t s q va ou := by
  obtain ⟨b1, b2, b3, b4, b5, b6, b7, hr, hi⟩ := wf_bd P W h12
  obtain ⟨hok, _, _⟩ := pg_tok P hr hi
  have hs : tk_so (K (40 * r + i)) = 1 := by rcases hk with h | h | h | h | h | ⟨h, _⟩ <;> rw [h] <;> decide
  have n13 : ¬ K (40 * r + i) = 13 := by rcases hk with h | h | h | h | h | ⟨h, _⟩ <;> rw [h] <;> decide
  have n17 : ¬ K (40 * r + i) = 17 := by rcases hk with h | h | h | h | h | ⟨h, _⟩ <;> rw [h] <;> decide
  have n8 : ¬ K (40 * r + i) = 8 := by rcases hk with h | h | h | h | h | ⟨h, _⟩ <;> rw [h] <;> decide
  have eR : st_w K ((r, i, p, y, 0, a, e0, n0, t0) :: st) = st_w K st := st_w_n (fun z => n8 z.1)
  have hen : en_pop K V U r i e n t := en_pass he hs (fun _ z => n13 z.1)
  refine g_popped P (e' := e) (n' := n) (v' := v) (t' := t) (s' := s) (q' := q) (va' := va) (ou' := ou) W hen b6 hq (Nat.le_refl _) (by omega) b2 ?_ (g_y0 b1 ?_)
  · intro ET EP KE KN KV post hS h; obtain ⟨s0, sT, sP, s3, sb⟩ := hS
    rw [eR]
    by_cases k12 : K (40 * r + i) = 12
    · have hp : p = 1 ∨ p = 2 := by
        rcases hk with h | h | h | h | h | ⟨_, h⟩
        · exact absurd (h.symm.trans k12) (by decide)
        · exact absurd (h.symm.trans k12) (by decide)
        · exact absurd (h.symm.trans k12) (by decide)
        · exact absurd (h.symm.trans k12) (by decide)
        · exact absurd (h.symm.trans k12) (by decide)
        · exact h
      exact xn_if b2 (by omega) sT sP k12 (xi_stop (hp.elim (fun z => Or.inr ⟨z, h0⟩) Or.inl) (h (upd EP st.length _) (fun q hq => pk_un (by omega))))
    · exact xn_plain b2 (by omega) sT sP hok ⟨n8, k12, n13, n17⟩ (xp_stop b2 h0 (h (upd EP st.length _) (fun q hq => pk_un (by omega))))
  · intro hd tg kd wo TK HT PH TG HW KS WR VL BG post hS hT h; obtain ⟨y0, yT, yH, yP, yC, yV, y3, yB⟩ := hS
    rw [eR]
    refine yw_s (by omega) (by omega) yT (E r hr i hi).1 yP (by rcases hk with h | h | h | h | h | ⟨h, _⟩ <;> rw [h] <;> decide) n17 n13 (yt_out (by omega) yH (h _ _ _ _ VL (fun _ _ => rfl) (sy_pop_s W hs (st_pop W hen) hT.2.2.1 hT.2.2.2.1 hT.2.2.2.2)) ?_ hy h0)
    rcases hk with h | h | h | h | h | ⟨h, _⟩ <;> rw [h] <;> decide
/-- SEQ and IF end -/
theorem g_end (P : pg_T K V Z U B LN) (E : pg_E K V KY VY LN) (W : st_wf K V U LN ((r, i, 2, y, 0, a, e0, n0, t0) :: st)) (h12 : st_w K ((r, i, 2, y, 0, a, e0, n0, t0) :: st) ≤ 12) (hq : q ≤ 300) (hk : (K (40 * r + i) = 14 ∧ y = 2) ∨ (K (40 * r + i) = 12 ∧ (y = 2 ∨ y = 3))) : GD f_expectedCount f_draftLength f_latestPlace f_place f_result f_thrown K V Z HB EX KY U LY VY B OP LN ((r, i, 2, y, 0, a, e0, n0, t0) :: st) 0 n v t s q va ou := by
  obtain ⟨b1, b2, b3, b4, b5, b6, b7, hr, hi⟩ := wf_bd P W h12
  obtain ⟨hok, _, _⟩ := pg_tok P hr hi
  have hs : tk_so (K (40 * r + i)) = 1 := by rcases hk with ⟨h, _⟩ | ⟨h, _⟩ <;> rw [h] <;> decide
  have n8 : ¬ K (40 * r + i) = 8 := by rcases hk with ⟨h, _⟩ | ⟨h, _⟩ <;> rw [h] <;> decide
  have eR : st_w K ((r, i, 2, y, 0, a, e0, n0, t0) :: st) = st_w K st := st_w_n (fun z => n8 z.1)
  refine g_popped P (e' := 0) (n' := n) (v' := v) (t' := t) (s' := s) (q' := q) (va' := va) (ou' := ou) W en_0 b6 hq (Nat.le_refl _) (by omega) b2 ?_ (g_y0 b1 ?_)
  · intro ET EP KE KN KV post hS h; obtain ⟨s0, sT, sP, s3, sb⟩ := hS
    rw [eR]
    rcases hk with ⟨hk, _⟩ | ⟨hk, _⟩
    · have hn : tk_np (K (40 * r + i)) (V (40 * r + i)) = 2 := by rw [hk]; rfl
      exact xn_plain b2 (by omega) sT sP hok (by rw [hk]; exact ⟨by decide, by decide, by decide, by decide⟩) (xp_fins P hr hi b2 sT (by omega) (by omega) hs (xg_skip (by omega) (Or.inr hk) (h (upd EP st.length _) (fun q hq => pk_un (by omega)))))
    · exact xn_if b2 (by omega) sT sP hk (xi_stop (Or.inl rfl) (h (upd EP st.length _) (fun q hq => pk_un (by omega))))
  · intro hd tg kd wo TK HT PH TG HW KS WR VL BG post hS hT h; obtain ⟨y0, yT, yH, yP, yC, yV, y3, yB⟩ := hS
    rw [eR]
    refine yw_s (by omega) (by omega) yT (E r hr i hi).1 yP (by rcases hk with ⟨h, _⟩ | ⟨h, _⟩ <;> rw [h] <;> decide) (by rcases hk with ⟨h, _⟩ | ⟨h, _⟩ <;> rw [h] <;> decide) (by rcases hk with ⟨h, _⟩ | ⟨h, _⟩ <;> rw [h] <;> decide) (yt_end (by omega) yH (h _ _ _ _ VL (fun _ _ => rfl) (sy_pop_s W hs (st_pop W en_0) (fun z => absurd z (by decide)) (fun z => absurd z (by decide)) (fun z => absurd z (by decide)))) ?_)
    rcases hk with ⟨h, h'⟩ | ⟨h, h'⟩
    · exact Or.inr (Or.inl ⟨h, h'⟩)
    · exact Or.inl ⟨h, h'⟩
/-- WHILE: the condition is 0 -/
theorem g_w1z (P : pg_T K V Z U B LN) (E : pg_E K V KY VY LN) (W : st_wf K V U LN ((r, i, 1, 1, 0, a, e0, n0, t0) :: st)) (h12 : st_w K ((r, i, 1, 1, 0, a, e0, n0, t0) :: st) ≤ 12) (hq : q ≤ 300) (hk : K (40 * r + i) = 13) (hv : v = 0) : GD f_expectedCount f_draftLength f_latestPlace f_place f_result f_thrown K V Z HB EX KY U LY VY B OP LN ((r, i, 1, 1, 0, a, e0, n0, t0) :: st) 0 n v t s q va ou := by
  obtain ⟨b1, b2, b3, b4, b5, b6, b7, hr, hi⟩ := wf_bd P W h12
  have hs : tk_so (K (40 * r + i)) = 1 := by rw [hk]; decide
  have eR : st_w K ((r, i, 1, 1, 0, a, e0, n0, t0) :: st) = st_w K st := st_w_n (fun z => by omega)
  have hR : st_h K ((r, i, 1, 1, 0, a, e0, n0, t0) :: st) = st_h K st := st_h_n (fr_b_n (by omega))
  have hcs : fr_cs (K (40 * r + i)) 1 = 0 := by rw [hk]; rfl
  refine g_popped P (e' := 0) (n' := n) (v' := v) (t' := t) (s' := s) (q' := q) (va' := va) (ou' := ou) W en_0 b6 hq (Nat.le_refl _) (by omega) b2 ?_ (g_y0 b1 ?_)
  · intro ET EP KE KN KV post hS h; obtain ⟨s0, sT, sP, s3, sb⟩ := hS
    rw [eR]
    exact xn_while b2 (by omega) sT sP hk (xw_1stop b2 (fun _ => hv) (h (upd EP st.length _) (fun q hq => pk_un (by omega))))
  · intro hd tg kd wo TK HT PH TG HW KS WR VL BG post hS hT h; obtain ⟨y0, yT, yH, yP, yC, yV, y3, yB⟩ := hS
    rw [eR]
    have hT1 := hT.1
    have hT2 := hT.2.1 rfl (by omega) hcs
    rw [hR, if_pos ⟨rfl, by omega, hcs⟩] at hT1
    rw [hR] at hT2
    subst hT1
    exact yw_w (by omega) (by omega) yT ((E r hr i hi).1.trans hk) yP (yq_1z (by omega) (by omega) yH (hT2.trans hv) (h _ _ _ _ VL (fun _ _ => rfl) (sy_pop_s W hs (st_pop W en_0) (fun z => absurd z (by decide)) (fun z => absurd z (by decide)) (fun z => absurd z (by decide)))))
/-- WHILE: a BREAK to it -/
theorem g_w2b (P : pg_T K V Z U B LN) (E : pg_E K V KY VY LN) (W : st_wf K V U LN ((r, i, 2, 2, 0, a, e0, n0, t0) :: st)) (h12 : st_w K ((r, i, 2, 2, 0, a, e0, n0, t0) :: st) ≤ 12) (hq : q ≤ 300) (hk : K (40 * r + i) = 13) (hn : n = V (40 * r + i)) (ht : t = i) : GD f_expectedCount f_draftLength f_latestPlace f_place f_result f_thrown K V Z HB EX KY U LY VY B OP LN ((r, i, 2, 2, 0, a, e0, n0, t0) :: st) 1 n v t s q va ou := by
  obtain ⟨b1, b2, b3, b4, b5, b6, b7, hr, hi⟩ := wf_bd P W h12
  have hs : tk_so (K (40 * r + i)) = 1 := by rw [hk]; decide
  have eR : st_w K ((r, i, 2, 2, 0, a, e0, n0, t0) :: st) = st_w K st := st_w_n (fun z => absurd (hk.symm.trans z.1) (by decide))
  subst hn
  refine g_popped P (e' := 0) (n' := V (40 * r + i)) (v' := v) (t' := t) (s' := s) (q' := q) (va' := va) (ou' := ou) W en_0 b6 hq (Nat.le_refl _) (by omega) b2 ?_ (g_y0 b1 ?_)
  · intro ET EP KE KN KV post hS h; obtain ⟨s0, sT, sP, s3, sb⟩ := hS
    rw [eR]
    exact xn_while b2 (by omega) sT sP hk (xw_2brk b2 (by omega) sT (h (upd EP st.length _) (fun q hq => pk_un (by omega))))
  · intro hd tg kd wo TK HT PH TG HW KS WR VL BG post hS hT h; obtain ⟨y0, yT, yH, yP, yC, yV, y3, yB⟩ := hS
    rw [eR]
    have e4 := hT.2.2.1 (Or.inl rfl)
    rw [ht] at e4
    subst e4
    exact yw_w (by omega) (by omega) yT ((E r hr i hi).1.trans hk) yP (yq_2b (by omega) yH (h _ _ _ _ VL (fun _ _ => rfl) (sy_pop_s W hs (st_pop W en_0) (fun z => absurd z (by decide)) (fun z => absurd z (by decide)) (fun z => absurd z (by decide)))))
/-- WHILE: an ending that isn't its own -/
theorem g_wout (P : pg_T K V Z U B LN) (E : pg_E K V KY VY LN) (W : st_wf K V U LN ((r, i, p, p, 0, a, e0, n0, t0) :: st)) (h12 : st_w K ((r, i, p, p, 0, a, e0, n0, t0) :: st) ≤ 12) (hq : q ≤ 300) (he : en_ok K V U r i e n t) (h0 : ¬ e = 0) (hk : K (40 * r + i) = 13) (hp : p = 1 ∨ p = 2) (hn : (e = 1 ∨ e = 2) → ¬ n = V (40 * r + i)) : GD f_expectedCount f_draftLength f_latestPlace f_place f_result f_thrown K V Z HB EX KY U LY VY B OP LN ((r, i, p, p, 0, a, e0, n0, t0) :: st) e n v t s q va ou := by
  obtain ⟨b1, b2, b3, b4, b5, b6, b7, hr, hi⟩ := wf_bd P W h12
  have hs : tk_so (K (40 * r + i)) = 1 := by rw [hk]; decide
  have eR : st_w K ((r, i, p, p, 0, a, e0, n0, t0) :: st) = st_w K st := st_w_n (fun z => absurd (hk.symm.trans z.1) (by decide))
  have nm : (e = 1 ∨ e = 2) → ¬ tr_m (ro K r) (ro V r) n i := fun z z2 => hn z z2.2.symm
  have hen : en_pop K V U r i e n t := en_pass he hs nm
  refine g_popped P (e' := e) (n' := n) (v' := v) (t' := t) (s' := s) (q' := q) (va' := va) (ou' := ou) W hen b6 hq (Nat.le_refl _) (by omega) b2 ?_ (g_y0 b1 ?_)
  · intro ET EP KE KN KV post hS h; obtain ⟨s0, sT, sP, s3, sb⟩ := hS
    rw [eR]
    rcases hp with rfl | rfl
    · exact xn_while b2 (by omega) sT sP hk (xw_1stop b2 (fun z => (h0 z).elim) (h (upd EP st.length _) (fun q hq => pk_un (by omega))))
    · exact xn_while b2 (by omega) sT sP hk (xw_2out b2 (by omega) sT h0 hn (h (upd EP st.length _) (fun q hq => pk_un (by omega))))
  · intro hd tg kd wo TK HT PH TG HW KS WR VL BG post hS hT h; obtain ⟨y0, yT, yH, yP, yC, yV, y3, yB⟩ := hS
    rw [eR]
    refine yw_w (by omega) (by omega) yT ((E r hr i hi).1.trans hk) yP (yq_out (by omega) yH hp h0 (fun z z2 => ?_) (h _ _ _ _ VL (fun _ _ => rfl) (sy_pop_s W hs (st_pop W hen) hT.2.2.1 hT.2.2.2.1 hT.2.2.2.2)))
    have hL := (P r hr (by omega)).2.1
    have hNL := tr_NL_le (he.2.1 z)
    have e4 := (hT.2.2.1 z).symm.trans z2
    have e5 : t = i := by
      have := (nI_eq (by omega) (by omega)).mp e4
      omega
    rw [e5] at hNL
    exact nm z hNL.2
/-- TRY: no catch, no finally part -/
theorem g_t1n (P : pg_T K V Z U B LN) (E : pg_E K V KY VY LN) (W : st_wf K V U LN ((r, i, 1, 1, 0, a, e0, n0, t0) :: st)) (h12 : st_w K ((r, i, 1, 1, 0, a, e0, n0, t0) :: st) ≤ 12) (hq : q ≤ 300) (he : en_ok K V U r i e n t) (hk : K (40 * r + i) = 17) (hf : tk_fn (V (40 * r + i)) = 0) (hno : e = 4 → ∀ b, 1 ≤ b → b ≤ tk_cn (V (40 * r + i)) → ¬ ct_m V Z r i n b) : GD f_expectedCount f_draftLength f_latestPlace f_place f_result f_thrown K V Z HB EX KY U LY VY B OP LN ((r, i, 1, 1, 0, a, e0, n0, t0) :: st) e n v t s q va ou := by
  obtain ⟨b1, b2, b3, b4, b5, b6, b7, hr, hi⟩ := wf_bd P W h12
  obtain ⟨hok, _, _⟩ := pg_tok P hr hi
  have hs : tk_so (K (40 * r + i)) = 1 := by rw [hk]; decide
  have eR : st_w K ((r, i, 1, 1, 0, a, e0, n0, t0) :: st) = st_w K st := st_w_n (fun z => by omega)
  have hen : en_pop K V U r i e n t := en_pass he hs (fun _ z => absurd (hk.symm.trans z.1) (by decide))
  refine g_popped P (e' := e) (n' := n) (v' := v) (t' := t) (s' := s) (q' := q) (va' := va) (ou' := ou) W hen b6 hq (Nat.le_refl _) (by omega) b2 ?_ (g_y0 b1 ?_)
  · intro ET EP KE KN KV post hS h; obtain ⟨s0, sT, sP, s3, sb⟩ := hS
    rw [eR]
    refine xn_try b2 (by omega) sT sP hk ?_
    by_cases h4 : e = 4
    · subst h4
      exact xt_hand P hr hi hk b2 sT b7 b6 (fun c m c1 c2 cm _ _ _ => (hno rfl c c1 c2 cm).elim) (fun _ => xt_81n (by omega) (hk ▸ hok) hf (h (upd EP st.length _) (fun q hq => pk_un (by omega))))
    · exact xt_1 b2 sT h4 (xt_81n (by omega) (hk ▸ hok) hf (h (upd EP st.length _) (fun q hq => pk_un (by omega))))
  · intro hd tg kd wo TK HT PH TG HW KS WR VL BG post hS hT h; obtain ⟨y0, yT, yH, yP, yC, yV, y3, yB⟩ := hS
    rw [eR]
    have g : wY_attempt_47 post (nI (40 * r + i)) (nI 1) (nI (tk_cn (V (40 * r + i)))) (nI (1 + tk_cn (V (40 * r + i)))) 0 f_place (nI (st_y st + 1)) hd (nI (st_w K st)) e tg kd wo (nI q) (nI s) f_result f_thrown 0 KY U LY VY B OP TK HT TG PH HW KS WR VL va BG ou := yz_none P E hr hi hk (by omega) (by omega) hf (by omega) yH (h _ _ _ _ VL (fun _ _ => rfl) (sy_pop_s W hs (st_pop W hen) hT.2.2.1 hT.2.2.2.1 hT.2.2.2.2))
    refine yw_t (by omega) (by omega) yT ((E r hr i hi).1.trans hk) yP ?_
    by_cases h4 : e = 4
    · subst h4
      have := hT.2.2.2.2 rfl
      subst this
      exact yz_nohand P E hr hi hk (hno rfl) g
    · exact yz_46 P E hr hi hk (by omega) (by omega) (fun _ => h4) g
/-- TRY: behind a catch, no finally part -/
theorem g_t2n (P : pg_T K V Z U B LN) (E : pg_E K V KY VY LN) (W : st_wf K V U LN ((r, i, 2, c + 1, c, a, e0, n0, t0) :: st)) (h12 : st_w K ((r, i, 2, c + 1, c, a, e0, n0, t0) :: st) ≤ 12) (hq : q ≤ 300) (he : en_ok K V U r i e n t) (hk : K (40 * r + i) = 17) (c1 : 1 ≤ c) (c2 : c ≤ tk_cn (V (40 * r + i))) (hf : tk_fn (V (40 * r + i)) = 0) : GD f_expectedCount f_draftLength f_latestPlace f_place f_result f_thrown K V Z HB EX KY U LY VY B OP LN ((r, i, 2, c + 1, c, a, e0, n0, t0) :: st) e n v t s q va ou := by
  obtain ⟨b1, b2, b3, b4, b5, b6, b7, hr, hi⟩ := wf_bd P W h12
  obtain ⟨hok, _, _⟩ := pg_tok P hr hi
  have hcn := tk_cn_le (V (40 * r + i))
  have hs : tk_so (K (40 * r + i)) = 1 := by rw [hk]; decide
  have eR : st_w K ((r, i, 2, c + 1, c, a, e0, n0, t0) :: st) = st_w K st := st_w_n (fun z => absurd (hk.symm.trans z.1) (by decide))
  have hen : en_pop K V U r i e n t := en_pass he hs (fun _ z => absurd (hk.symm.trans z.1) (by decide))
  refine g_popped P (e' := e) (n' := n) (v' := v) (t' := t) (s' := s) (q' := q) (va' := va) (ou' := ou) W hen b6 hq (Nat.le_refl _) (by omega) b2 ?_ ⟨2, ?_⟩
  · intro ET EP KE KN KV post hS h; obtain ⟨s0, sT, sP, s3, sb⟩ := hS
    rw [eR]
    exact xn_try b2 (by omega) sT sP hk (xt_2 b2 sT (xt_81n (by omega) (hk ▸ hok) hf (h (upd EP st.length _) (fun q hq => pk_un (by omega)))))
  · intro post mm h hd tg kd wo TK HT PH TG HW KS WR VL BG hS hT
    refine y_catch P E W h12 hk c1 c2 hS ?_
    obtain ⟨y0, yT, yH, yP, yC, yV, y3, yB⟩ := hS
    refine yw_t (by omega) (by omega) yT ((E r hr i hi).1.trans hk) yP (yz_46 P E hr hi hk (by omega) (by omega) (fun z => by omega) (yz_none P E hr hi hk (by omega) (by omega) hf (by omega) yH ?_))
    exact yk_pop y0 (sy_pop_s W hs (st_pop W hen) hT.2.2.1 hT.2.2.2.1 hT.2.2.2.2) h
/-- TRY: the finally part has ended -/
theorem g_t3 (P : pg_T K V Z U B LN) (E : pg_E K V KY VY LN) (W : st_wf K V U LN ((r, i, 3, 4, 0, a, e0, n0, t0) :: st)) (h12 : st_w K ((r, i, 3, 4, 0, a, e0, n0, t0) :: st) ≤ 12) (hq : q ≤ 300) (he : en_ok K V U r i e n t) (hk : K (40 * r + i) = 17) : GD f_expectedCount f_draftLength f_latestPlace f_place f_result f_thrown K V Z HB EX KY U LY VY B OP LN ((r, i, 3, 4, 0, a, e0, n0, t0) :: st) e n v t s q va ou := by
  obtain ⟨b1, b2, b3, b4, b5, b6, b7, hr, hi⟩ := wf_bd P W h12
  have hs : tk_so (K (40 * r + i)) = 1 := by rw [hk]; decide
  have eR : st_w K ((r, i, 3, 4, 0, a, e0, n0, t0) :: st) = st_w K st := st_w_n (fun z => by omega)
  by_cases h0 : e = 0
  · subst h0
    have he0 := W.2.2.2.2.2.2.1 rfl
    have hen : en_pop K V U r i e0 n0 t0 := en_pass he0 hs (fun _ z => absurd (hk.symm.trans z.1) (by decide))
    refine g_popped P (e' := e0) (n' := n0) (v' := a) (t' := t0) (s' := s) (q' := q) (va' := va) (ou' := ou) W hen b6 hq (Nat.le_refl _) (by omega) b2 ?_ (g_y0 b1 ?_)
    · intro ET EP KE KN KV post hS h; obtain ⟨s0, sT, sP, s3, sb⟩ := hS
      rw [eR]
      obtain ⟨u1, u2, u3⟩ := s3 rfl
      refine xn_try b2 (by omega) sT sP hk (xt_3back b2 ?_)
      rw [u1, u2, u3]
      exact (h (upd EP st.length _) (fun q hq => pk_un (by omega)))
    · intro hd tg kd wo TK HT PH TG HW KS WR VL BG post hS hT h; obtain ⟨y0, yT, yH, yP, yC, yV, y3, yB⟩ := hS
      rw [eR]
      obtain ⟨u1, u2, u3, u4⟩ := y3 rfl
      refine yw_t (by omega) (by omega) yT ((E r hr i hi).1.trans hk) yP (yz_46 P E hr hi hk (by omega) (by omega) (fun z => by omega) (yz_back P hr hi (by omega) yH ?_))
      rw [u1]
      exact h _ _ _ _ VL (fun _ _ => rfl) (sy_pop_s W hs (st_pop W hen) u2 u3 u4)
  · have hen : en_pop K V U r i e n t := en_pass he hs (fun _ z => absurd (hk.symm.trans z.1) (by decide))
    refine g_popped P (e' := e) (n' := n) (v' := v) (t' := t) (s' := s) (q' := q) (va' := va) (ou' := ou) W hen b6 hq (Nat.le_refl _) (by omega) b2 ?_ (g_y0 b1 ?_)
    · intro ET EP KE KN KV post hS h; obtain ⟨s0, sT, sP, s3, sb⟩ := hS
      rw [eR]
      exact xn_try b2 (by omega) sT sP hk (xt_3out b2 h0 (h (upd EP st.length _) (fun q hq => pk_un (by omega))))
    · intro hd tg kd wo TK HT PH TG HW KS WR VL BG post hS hT h; obtain ⟨y0, yT, yH, yP, yC, yV, y3, yB⟩ := hS
      rw [eR]
      exact yw_t (by omega) (by omega) yT ((E r hr i hi).1.trans hk) yP (yz_46 P E hr hi hk (by omega) (by omega) (fun z => by omega) (yz_4out (by omega) yH h0 (h _ _ _ _ VL (fun _ _ => rfl) (sy_pop_s W hs (st_pop W hen) hT.2.2.1 hT.2.2.2.1 hT.2.2.2.2))))
/-- the steps are used up: a loop -/
theorem o_while (P : pg_T K V Z U B LN) (E : pg_E K V KY VY LN) (W : st_wf K V U LN ((r, i, p, p, 0, a, e0, n0, t0) :: st)) (h12 : st_w K ((r, i, p, p, 0, a, e0, n0, t0) :: st) ≤ 12) (hk : K (40 * r + i) = 13) (hp : p = 0 ∧ e = 0 ∨ p = 2 ∧ (e = 0 ∨ (e = 2 ∧ n = V (40 * r + i) ∧ t = i))) : OV f_expectedCount f_draftLength f_latestPlace f_place f_result f_thrown K V Z HB EX KY U LY VY B OP LN ((r, i, p, p, 0, a, e0, n0, t0) :: st) e n v t s 300 va ou := by
  obtain ⟨b1, b2, b3, b4, b5, b6, b7, hr, hi⟩ := wf_bd P W h12
  refine ⟨rfl, fun post turn ht h ET EP KE KN KV hS => ?_, fun post h hd tg kd wo TK HT PH TG HW KS WR VL BG hS hT => ?_⟩
  · obtain ⟨s0, sT, sP, s3, sb⟩ := hS
    have hj : 40 * r + i < 200 := by omega
    refine xs_enter (m := 1) ht (by omega) ?_
    rcases hp with ⟨rfl, rfl⟩ | ⟨rfl, hp⟩
    · exact xn_while b2 hj sT sP hk (xw_0 b2 hj sT (xw_over (xk_over h)))
    · exact xn_while b2 hj sT sP hk (xw_2go b2 hj sT (hp.imp id (fun z => ⟨z.1, z.2.1⟩)) (xw_over (xk_over h)))
  · obtain ⟨y0, yT, yH, yP, yC, yV, y3, yB⟩ := hS
    refine ys_enter (m := 1) (T := st_y st) (by omega) ?_
    rcases hp with ⟨rfl, rfl⟩ | ⟨rfl, rfl | ⟨rfl, _, ti⟩⟩
    · exact yw_w (by omega) (by omega) yT ((E r hr i hi).1.trans hk) yP (yq_0 (yq_over (yk_over h)))
    · exact yw_w (by omega) (by omega) yT ((E r hr i hi).1.trans hk) yP (yq_2n (yq_over (yk_over h)))
    · have e4 := hT.2.2.1 (Or.inr rfl)
      rw [ti] at e4
      subst e4
      exact yw_w (by omega) (by omega) yT ((E r hr i hi).1.trans hk) yP (yq_2c (yq_over (yk_over h)))
/-- the steps are used up: a call -/
theorem o_call (P : pg_T K V Z U B LN) (E : pg_E K V KY VY LN) (W : st_wf K V U LN ((r, i, 1, 1, 0, a, e0, n0, t0) :: st)) (h12 : st_w K ((r, i, 1, 1, 0, a, e0, n0, t0) :: st) ≤ 12) (hk : K (40 * r + i) = 8) {f : Nat} (hf : f < 4) (hv : V (40 * r + i) = nI f) (hb : HB f = 1) (hl : ¬ LY f = 0) : OV f_expectedCount f_draftLength f_latestPlace f_place f_result f_thrown K V Z HB EX KY U LY VY B OP LN ((r, i, 1, 1, 0, a, e0, n0, t0) :: st) 0 n v t s 300 va ou := by
  obtain ⟨b1, b2, b3, b4, b5, b6, b7, hr, hi⟩ := wf_bd P W h12
  obtain ⟨hok, _, _⟩ := pg_tok P hr hi
  have hn : tk_np (K (40 * r + i)) (V (40 * r + i)) = 1 := by rw [hk]; rfl
  have hR : st_h K ((r, i, 1, 1, 0, a, e0, n0, t0) :: st) = st_h K st := st_h_n (fr_b_n (by omega))
  have hcs : fr_cs (K (40 * r + i)) 1 = 0 := by rw [hk]; rfl
  refine ⟨rfl, fun post turn ht h ET EP KE KN KV hS => ?_, fun post h hd tg kd wo TK HT PH TG HW KS WR VL BG hS hT => ?_⟩
  · obtain ⟨s0, sT, sP, s3, sb⟩ := hS
    exact xs_enter (m := 1) ht (by omega) (xn_call b2 (by omega) sT sP hk (xc_1go b2 (by omega) sT hv (xb_over hf hb (xk_over h))))
  · obtain ⟨y0, yT, yH, yP, yC, yV, y3, yB⟩ := hS
    have hT1 := hT.1
    rw [hR, if_pos ⟨rfl, by omega, hcs⟩] at hT1
    subst hT1
    refine ys_enter (m := 1) (T := st_y st) (by omega) (yw_x (by omega) (by omega) yT ((E r hr i hi).1.trans hk) yP (by decide) (ye_in (hk ▸ hok) (by decide) (fun _ => by omega) (by omega) ?_))
    rw [hk] at hn
    rw [hn]
    exact yc_over (by omega) (by omega) (by omega) hf ((E r hr i hi).2.trans hv) hl (yk_over h)
end
