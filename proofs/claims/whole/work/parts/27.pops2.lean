section
variable {f_expectedCount f_draftLength f_latestPlace f_place f_result f_thrown : Int32} {K V Z HB EX KY U LY VY B OP va ou : Nat → Int32} {LN : Nat → Nat} {r i p y c : Nat} {a e0 n0 e n v : Int32} {t0 t s q : Nat} {st : List Fr}
/-- CALL: there is no body -/
theorem g_cnone (P : pg_T K V Z U B LN) (E : pg_E K V KY VY LN) (W : st_wf K V U LN ((r, i, 1, 1, 0, a, e0, n0, t0) :: st)) (h12 : st_w K ((r, i, 1, 1, 0, a, e0, n0, t0) :: st) ≤ 12) (hq : q ≤ 300) (hk : K (40 * r + i) = 8) {f : Nat} (hf : f < 4) (hv : V (40 * r + i) = nI f) (hb : HB f = 0) (hl : LY f = 0) : GD f_expectedCount f_draftLength f_latestPlace f_place f_result f_thrown K V Z HB EX KY U LY VY B OP LN ((r, i, 1, 1, 0, a, e0, n0, t0) :: st) 0 n v t s q va ou := by
  obtain ⟨b1, b2, b3, b4, b5, b6, b7, hr, hi⟩ := wf_bd P W h12
  obtain ⟨hok, _, _⟩ := pg_tok P hr hi
  have hn : tk_np (K (40 * r + i)) (V (40 * r + i)) = 1 := by rw [hk]; rfl
  have eR : st_w K ((r, i, 1, 1, 0, a, e0, n0, t0) :: st) = st_w K st := st_w_n (fun z => by omega)
  have hR : st_h K ((r, i, 1, 1, 0, a, e0, n0, t0) :: st) = st_h K st := st_h_n (fr_b_n (by omega))
  have hcs : fr_cs (K (40 * r + i)) 1 = 0 := by rw [hk]; rfl
  refine g_popped P (e' := 4) (n' := 1) (v' := nI f) (t' := t) (s' := s) (q' := q) (va' := va) (ou' := ou) W ⟨by decide, fun _ => Or.inr rfl, fun z => absurd z (by decide), fun _ => ⟨1, by decide, rfl⟩⟩ b6 hq (Nat.le_refl _) (by omega) b2 ?_ ⟨2, ?_⟩
  · intro ET EP KE KN KV post hS h; obtain ⟨s0, sT, sP, s3, sb⟩ := hS
    rw [eR]
    exact xn_call b2 (by omega) sT sP hk (xc_1go b2 (by omega) sT hv (xb_none hf hb (h (upd EP st.length _) (fun q hq => pk_un (by omega)))))
  · intro post m h hd tg kd wo TK HT PH TG HW KS WR VL BG hS hT
    obtain ⟨y0, yT, yH, yP, yC, yV, y3, yB⟩ := hS
    rw [eR]
    have hT1 := hT.1
    rw [hR, if_pos ⟨rfl, by omega, hcs⟩] at hT1
    subst hT1
    refine ys_enter (m := m + 1) (T := st_y st) (by omega) (yw_x (by omega) (by omega) yT ((E r hr i hi).1.trans hk) yP (by decide) (ye_in (hk ▸ hok) (by decide) (fun _ => by omega) (by omega) ?_))
    rw [hk] at hn
    rw [hn]
    refine yc_none (by omega) (by omega) (by omega) hf ((E r hr i hi).2.trans hv) hl ?_
    refine ys_enter (m := m) (T := st_y st) (by omega) (yw_x (y := 2) (j := 40 * r + i) (by omega) (by omega) yT ((E r hr i hi).1.trans hk) pk_us (by decide) (yr_in (yr_4n (by omega) yH pk_us ?_)))
    exact yk_pop (sy_keep st (fun _ _ => rfl) (fun _ _ => rfl) (fun q hq => pk_un (by omega)) (fun _ _ => rfl) (fun _ _ => rfl) (fun _ _ => rfl) (fun _ _ => rfl) (fun _ _ => rfl) (fun q hq => pk_un (by omega)) y0) (sy_pop_4 (r := r) (i := i) (p := 1) (y := 1) (c := 0) (a := a) (e0 := e0) (n0 := n0) (t0 := t0) rfl rfl) h
/-- CALL: 12 are at work -/
theorem g_cdeep (P : pg_T K V Z U B LN) (E : pg_E K V KY VY LN) (W : st_wf K V U LN ((r, i, 1, 1, 0, a, e0, n0, t0) :: st)) (h12 : st_w K ((r, i, 1, 1, 0, a, e0, n0, t0) :: st) ≤ 12) (hq : q ≤ 300) (hk : K (40 * r + i) = 8) {f : Nat} (hf : f < 4) (hv : V (40 * r + i) = nI f) (hb : HB f = 1) (hl : ¬ LY f = 0) (hq3 : q < 300) (hw : st_w K st = 12) : GD f_expectedCount f_draftLength f_latestPlace f_place f_result f_thrown K V Z HB EX KY U LY VY B OP LN ((r, i, 1, 1, 0, a, e0, n0, t0) :: st) 0 n v t s q va ou := by
  obtain ⟨b1, b2, b3, b4, b5, b6, b7, hr, hi⟩ := wf_bd P W h12
  obtain ⟨hok, _, _⟩ := pg_tok P hr hi
  have hn : tk_np (K (40 * r + i)) (V (40 * r + i)) = 1 := by rw [hk]; rfl
  have eR : st_w K ((r, i, 1, 1, 0, a, e0, n0, t0) :: st) = 12 := (st_w_n (fun z => by omega)).trans hw
  have hR : st_h K ((r, i, 1, 1, 0, a, e0, n0, t0) :: st) = st_h K st := st_h_n (fr_b_n (by omega))
  have hcs : fr_cs (K (40 * r + i)) 1 = 0 := by rw [hk]; rfl
  refine g_popped P (e' := 4) (n' := 2) (v' := nI f) (t' := t) (s' := s) (q' := q + 1) (va' := va) (ou' := ou) W ⟨by decide, fun _ => Or.inr rfl, fun z => absurd z (by decide), fun _ => ⟨2, by decide, rfl⟩⟩ b6 (by omega) (by omega) (by omega) b2 ?_ ⟨2, ?_⟩
  · intro ET EP KE KN KV post hS h; obtain ⟨s0, sT, sP, s3, sb⟩ := hS
    rw [eR]
    rw [hw] at h
    exact xn_call b2 (by omega) sT sP hk (xc_1go b2 (by omega) sT hv (xb_deep hf hb hq3 (h (upd EP st.length _) (fun q hq => pk_un (by omega)))))
  · intro post m h hd tg kd wo TK HT PH TG HW KS WR VL BG hS hT
    obtain ⟨y0, yT, yH, yP, yC, yV, y3, yB⟩ := hS
    rw [eR]
    have hT1 := hT.1
    rw [hR, if_pos ⟨rfl, by omega, hcs⟩] at hT1
    subst hT1
    refine ys_enter (m := m + 1) (T := st_y st) (by omega) (yw_x (by omega) (by omega) yT ((E r hr i hi).1.trans hk) yP (by decide) (ye_in (hk ▸ hok) (by decide) (fun _ => by omega) (by omega) ?_))
    rw [hk] at hn
    rw [hn]
    refine yc_deep (by omega) (by omega) (by omega) hf hq3 ((E r hr i hi).2.trans hv) hl ?_
    refine ys_enter (m := m) (T := st_y st) (by omega) (yw_x (y := 2) (j := 40 * r + i) (by omega) (by omega) yT ((E r hr i hi).1.trans hk) pk_us (by decide) (yr_in (yr_4n (by omega) yH pk_us ?_)))
    have g := yk_pop (tg := tg) (kd := 2) (wo := nI f) (hd := nI (st_h K st)) (sy_keep (TK' := TK) (HT' := HT) (PH' := upd PH (st_y st) 2) (TG' := TG) (HW' := HW) (KS' := KS) (WR' := WR) (VL' := VL) (BG' := upd BG (st_y st) 0) st (fun _ _ => rfl) (fun _ _ => rfl) (fun q hq => pk_un (by omega)) (fun _ _ => rfl) (fun _ _ => rfl) (fun _ _ => rfl) (fun _ _ => rfl) (fun _ _ => rfl) (fun q hq => pk_un (by omega)) y0) (sy_pop_4 (r := r) (i := i) (p := 1) (y := 1) (c := 0) (a := a) (e0 := e0) (n0 := n0) (t0 := t0) rfl rfl) h
    rw [hw] at g
    exact g
/-- SET -/
theorem g_set (P : pg_T K V Z U B LN) (E : pg_E K V KY VY LN) (W : st_wf K V U LN ((r, i, 1, 1, 0, a, e0, n0, t0) :: st)) (h12 : st_w K ((r, i, 1, 1, 0, a, e0, n0, t0) :: st) ≤ 12) (hq : q ≤ 300) (hk : K (40 * r + i) = 10) : GD f_expectedCount f_draftLength f_latestPlace f_place f_result f_thrown K V Z HB EX KY U LY VY B OP LN ((r, i, 1, 1, 0, a, e0, n0, t0) :: st) 0 n v t s q va ou := by
  obtain ⟨b1, b2, b3, b4, b5, b6, b7, hr, hi⟩ := wf_bd P W h12
  obtain ⟨hok, _, _⟩ := pg_tok P hr hi
  obtain ⟨m, hm, em⟩ := tk_var hok (Or.inr hk)
  have hs : tk_so (K (40 * r + i)) = 1 := by rw [hk]; decide
  have hn : tk_np (K (40 * r + i)) (V (40 * r + i)) = 1 := by rw [hk]; rfl
  have eR : st_w K ((r, i, 1, 1, 0, a, e0, n0, t0) :: st) = st_w K st := st_w_n (fun z => by omega)
  have hR : st_h K ((r, i, 1, 1, 0, a, e0, n0, t0) :: st) = st_h K st := st_h_n (fr_b_n (by omega))
  have hcs : fr_cs (K (40 * r + i)) 1 = 0 := by rw [hk]; rfl
  refine g_popped P (e' := 0) (n' := n) (v' := v) (t' := t) (s' := s) (q' := q) (va' := upd va (6 * (st_w K st - 1) + m) v) (ou' := ou) W en_0 b6 hq (Nat.le_refl _) (by omega) b2 ?_ (g_y0 b1 ?_)
  · intro ET EP KE KN KV post hS h; obtain ⟨s0, sT, sP, s3, sb⟩ := hS
    rw [eR]
    exact xn_plain b2 (by omega) sT sP hok (by rw [hk]; exact ⟨by decide, by decide, by decide, by decide⟩) (xp_fins P hr hi b2 sT (by omega) (by omega) hs (xg_set (by omega) hk em hm b7 b6 (h (upd EP st.length _) (fun q hq => pk_un (by omega)))))
  · intro hd tg kd wo TK HT PH TG HW KS WR VL BG post hS hT h; obtain ⟨y0, yT, yH, yP, yC, yV, y3, yB⟩ := hS
    rw [eR]
    have hT1 := hT.1
    have hT2 := hT.2.1 rfl (by omega) hcs
    rw [hR, if_pos ⟨rfl, by omega, hcs⟩] at hT1
    rw [hR] at hT2
    subst hT1 hT2
    exact yw_s (by omega) (by omega) yT ((E r hr i hi).1.trans hk) yP (by decide) (by decide) (by decide) (yt_use (by decide) (by omega) (by omega) (yu_set hm b7 b6 ((E r hr i hi).2.trans em) (yo_thr0 (by omega) yH (h _ _ _ _ VL (fun _ _ => rfl) (sy_pop_s W hs (st_pop W en_0) (fun z => absurd z (by decide)) (fun z => absurd z (by decide)) (fun z => absurd z (by decide)))))))
/-- SAY -/
theorem g_say (P : pg_T K V Z U B LN) (E : pg_E K V KY VY LN) (W : st_wf K V U LN ((r, i, 1, 1, 0, a, e0, n0, t0) :: st)) (h12 : st_w K ((r, i, 1, 1, 0, a, e0, n0, t0) :: st) ≤ 12) (hq : q ≤ 300) (hss : s < 2000000) (hk : K (40 * r + i) = 11) : GD f_expectedCount f_draftLength f_latestPlace f_place f_result f_thrown K V Z HB EX KY U LY VY B OP LN ((r, i, 1, 1, 0, a, e0, n0, t0) :: st) 0 n v t s q va ou := by
  obtain ⟨b1, b2, b3, b4, b5, b6, b7, hr, hi⟩ := wf_bd P W h12
  obtain ⟨hok, _, _⟩ := pg_tok P hr hi
  have hs : tk_so (K (40 * r + i)) = 1 := by rw [hk]; decide
  have hn : tk_np (K (40 * r + i)) (V (40 * r + i)) = 1 := by rw [hk]; rfl
  have eR : st_w K ((r, i, 1, 1, 0, a, e0, n0, t0) :: st) = st_w K st := st_w_n (fun z => by omega)
  have hR : st_h K ((r, i, 1, 1, 0, a, e0, n0, t0) :: st) = st_h K st := st_h_n (fr_b_n (by omega))
  have hcs : fr_cs (K (40 * r + i)) 1 = 0 := by rw [hk]; rfl
  refine g_popped P (e' := 0) (n' := n) (v' := v) (t' := t) (s' := s + 1) (q' := q) (va' := va) (ou' := if s < 40 then upd ou s v else ou) W en_0 b6 hq (Nat.le_refl _) (by omega) b2 ?_ (g_y0 b1 ?_)
  · intro ET EP KE KN KV post hS h; obtain ⟨s0, sT, sP, s3, sb⟩ := hS
    rw [eR]
    exact xn_plain b2 (by omega) sT sP hok (by rw [hk]; exact ⟨by decide, by decide, by decide, by decide⟩) (xp_fins P hr hi b2 sT (by omega) (by omega) hs (xg_say (by omega) hk hss (h (upd EP st.length _) (fun q hq => pk_un (by omega)))))
  · intro hd tg kd wo TK HT PH TG HW KS WR VL BG post hS hT h; obtain ⟨y0, yT, yH, yP, yC, yV, y3, yB⟩ := hS
    rw [eR]
    have hT1 := hT.1
    have hT2 := hT.2.1 rfl (by omega) hcs
    rw [hR, if_pos ⟨rfl, by omega, hcs⟩] at hT1
    rw [hR] at hT2
    subst hT1 hT2
    exact yw_s (by omega) (by omega) yT ((E r hr i hi).1.trans hk) yP (by decide) (by decide) (by decide) (yt_use (by decide) (by omega) (by omega) (yu_say hss (yo_thr0 (by omega) yH (h _ _ _ _ VL (fun _ _ => rfl) (sy_pop_s W hs (st_pop W en_0) (fun z => absurd z (by decide)) (fun z => absurd z (by decide)) (fun z => absurd z (by decide)))))))
/-- THROW -/
theorem g_throw (P : pg_T K V Z U B LN) (E : pg_E K V KY VY LN) (W : st_wf K V U LN ((r, i, 1, 1, 0, a, e0, n0, t0) :: st)) (h12 : st_w K ((r, i, 1, 1, 0, a, e0, n0, t0) :: st) ≤ 12) (hq : q ≤ 300) (hk : K (40 * r + i) = 16) : GD f_expectedCount f_draftLength f_latestPlace f_place f_result f_thrown K V Z HB EX KY U LY VY B OP LN ((r, i, 1, 1, 0, a, e0, n0, t0) :: st) 0 n v t s q va ou := by
  obtain ⟨b1, b2, b3, b4, b5, b6, b7, hr, hi⟩ := wf_bd P W h12
  obtain ⟨hok, _, _⟩ := pg_tok P hr hi
  have hfo := tk_fou hok (Or.inr (Or.inr (Or.inl hk)))
  have hs : tk_so (K (40 * r + i)) = 1 := by rw [hk]; decide
  have hn : tk_np (K (40 * r + i)) (V (40 * r + i)) = 1 := by rw [hk]; rfl
  have eR : st_w K ((r, i, 1, 1, 0, a, e0, n0, t0) :: st) = st_w K st := st_w_n (fun z => by omega)
  have hR : st_h K ((r, i, 1, 1, 0, a, e0, n0, t0) :: st) = st_h K st := st_h_n (fr_b_n (by omega))
  have hcs : fr_cs (K (40 * r + i)) 1 = 0 := by rw [hk]; rfl
  have hen : en_pop K V U r i 4 (V (40 * r + i)) t := ⟨by decide, fun _ => Or.inr rfl, fun z => absurd z (by decide), fun _ => hfo⟩
  refine g_popped P (e' := 4) (n' := V (40 * r + i)) (v' := v) (t' := t) (s' := s) (q' := q) (va' := va) (ou' := ou) W hen b6 hq (Nat.le_refl _) (by omega) b2 ?_ (g_y0 b1 ?_)
  · intro ET EP KE KN KV post hS h; obtain ⟨s0, sT, sP, s3, sb⟩ := hS
    rw [eR]
    exact xn_plain b2 (by omega) sT sP hok (by rw [hk]; exact ⟨by decide, by decide, by decide, by decide⟩) (xp_fins P hr hi b2 sT (by omega) (by omega) hs (xg_throw (by omega) hk (h (upd EP st.length _) (fun q hq => pk_un (by omega)))))
  · intro hd tg kd wo TK HT PH TG HW KS WR VL BG post hS hT h; obtain ⟨y0, yT, yH, yP, yC, yV, y3, yB⟩ := hS
    rw [eR]
    have hT1 := hT.1
    have hT2 := hT.2.1 rfl (by omega) hcs
    rw [hR, if_pos ⟨rfl, by omega, hcs⟩] at hT1
    rw [hR] at hT2
    subst hT1 hT2
    exact yw_s (by omega) (by omega) yT ((E r hr i hi).1.trans hk) yP (by decide) (by decide) (by decide) (yt_use (by decide) (by omega) (by omega) (yu_throw (yo_thr0 (by omega) yH (h _ _ _ _ VL (fun _ _ => rfl) (sy_pop_s W hs (st_pop W hen) (fun z => absurd z (by decide)) (fun _ => rfl) (fun _ => (E r hr i hi).2))))))
/-- RETURN -/
theorem g_return (P : pg_T K V Z U B LN) (E : pg_E K V KY VY LN) (W : st_wf K V U LN ((r, i, 1, 1, 0, a, e0, n0, t0) :: st)) (h12 : st_w K ((r, i, 1, 1, 0, a, e0, n0, t0) :: st) ≤ 12) (hq : q ≤ 300) (hk : K (40 * r + i) = 21) : GD f_expectedCount f_draftLength f_latestPlace f_place f_result f_thrown K V Z HB EX KY U LY VY B OP LN ((r, i, 1, 1, 0, a, e0, n0, t0) :: st) 0 n v t s q va ou := by
  obtain ⟨b1, b2, b3, b4, b5, b6, b7, hr, hi⟩ := wf_bd P W h12
  obtain ⟨hok, _, _⟩ := pg_tok P hr hi
  have hs : tk_so (K (40 * r + i)) = 1 := by rw [hk]; decide
  have hn : tk_np (K (40 * r + i)) (V (40 * r + i)) = 1 := by rw [hk]; rfl
  have eR : st_w K ((r, i, 1, 1, 0, a, e0, n0, t0) :: st) = st_w K st := st_w_n (fun z => by omega)
  have hR : st_h K ((r, i, 1, 1, 0, a, e0, n0, t0) :: st) = st_h K st := st_h_n (fr_b_n (by omega))
  have hcs : fr_cs (K (40 * r + i)) 1 = 0 := by rw [hk]; rfl
  have hen : en_pop K V U r i 3 0 t := ⟨by decide, fun z => by omega, fun z => absurd z (by decide), fun z => absurd z (by decide)⟩
  refine g_popped P (e' := 3) (n' := 0) (v' := v) (t' := t) (s' := s) (q' := q) (va' := va) (ou' := ou) W hen b6 hq (Nat.le_refl _) (by omega) b2 ?_ (g_y0 b1 ?_)
  · intro ET EP KE KN KV post hS h; obtain ⟨s0, sT, sP, s3, sb⟩ := hS
    rw [eR]
    exact xn_plain b2 (by omega) sT sP hok (by rw [hk]; exact ⟨by decide, by decide, by decide, by decide⟩) (xp_fins P hr hi b2 sT (by omega) (by omega) hs (xg_ret (by omega) hk (h (upd EP st.length _) (fun q hq => pk_un (by omega)))))
  · intro hd tg kd wo TK HT PH TG HW KS WR VL BG post hS hT h; obtain ⟨y0, yT, yH, yP, yC, yV, y3, yB⟩ := hS
    rw [eR]
    have hT1 := hT.1
    have hT2 := hT.2.1 rfl (by omega) hcs
    rw [hR, if_pos ⟨rfl, by omega, hcs⟩] at hT1
    rw [hR] at hT2
    subst hT1 hT2
    exact yw_s (by omega) (by omega) yT ((E r hr i hi).1.trans hk) yP (by decide) (by decide) (by decide) (yt_use (by decide) (by omega) (by omega) (yu_ret (yo_thr0 (by omega) yH (h _ _ _ _ VL (fun _ _ => rfl) (sy_pop_s W hs (st_pop W hen) (fun z => absurd z (by decide)) (fun _ => rfl) (fun z => absurd z (by decide)))))))
/-- SKIP -/
theorem g_skip (P : pg_T K V Z U B LN) (E : pg_E K V KY VY LN) (W : st_wf K V U LN ((r, i, 0, 0, 0, a, e0, n0, t0) :: st)) (h12 : st_w K ((r, i, 0, 0, 0, a, e0, n0, t0) :: st) ≤ 12) (hq : q ≤ 300) (hk : K (40 * r + i) = 15) : GD f_expectedCount f_draftLength f_latestPlace f_place f_result f_thrown K V Z HB EX KY U LY VY B OP LN ((r, i, 0, 0, 0, a, e0, n0, t0) :: st) 0 n v t s q va ou := by
  obtain ⟨b1, b2, b3, b4, b5, b6, b7, hr, hi⟩ := wf_bd P W h12
  obtain ⟨hok, _, _⟩ := pg_tok P hr hi
  have hs : tk_so (K (40 * r + i)) = 1 := by rw [hk]; decide
  have hn : tk_np (K (40 * r + i)) (V (40 * r + i)) = 0 := by rw [hk]; rfl
  have eR : st_w K ((r, i, 0, 0, 0, a, e0, n0, t0) :: st) = st_w K st := st_w_n (fun z => by omega)
  refine g_popped P (e' := 0) (n' := n) (v' := v) (t' := t) (s' := s) (q' := q) (va' := va) (ou' := ou) W en_0 b6 hq (Nat.le_refl _) (by omega) b2 ?_ (g_y0 b1 ?_)
  · intro ET EP KE KN KV post hS h; obtain ⟨s0, sT, sP, s3, sb⟩ := hS
    rw [eR]
    exact xn_plain b2 (by omega) sT sP hok (by rw [hk]; exact ⟨by decide, by decide, by decide, by decide⟩) (xp_fins P hr hi b2 sT (by omega) (by omega) hs (xg_skip (by omega) (Or.inl hk) (h (upd EP st.length _) (fun q hq => pk_un (by omega)))))
  · intro hd tg kd wo TK HT PH TG HW KS WR VL BG post hS hT h; obtain ⟨y0, yT, yH, yP, yC, yV, y3, yB⟩ := hS
    rw [eR]
    exact yw_s (by omega) (by omega) yT ((E r hr i hi).1.trans hk) yP (by decide) (by decide) (by decide) (yt_skip (by omega) yH (h _ _ _ _ VL (fun _ _ => rfl) (sy_pop_s W hs (st_pop W en_0) (fun z => absurd z (by decide)) (fun z => absurd z (by decide)) (fun z => absurd z (by decide)))))
/-- BREAK, CONTINUE -/
theorem g_jump (P : pg_T K V Z U B LN) (E : pg_E K V KY VY LN) (W : st_wf K V U LN ((r, i, 0, 0, 0, a, e0, n0, t0) :: st)) (h12 : st_w K ((r, i, 0, 0, 0, a, e0, n0, t0) :: st) ≤ 12) (hq : q ≤ 300) (hk : K (40 * r + i) = 19 ∨ K (40 * r + i) = 20) : GD f_expectedCount f_draftLength f_latestPlace f_place f_result f_thrown K V Z HB EX KY U LY VY B OP LN ((r, i, 0, 0, 0, a, e0, n0, t0) :: st) 0 n v t s q va ou := by
  obtain ⟨b1, b2, b3, b4, b5, b6, b7, hr, hi⟩ := wf_bd P W h12
  obtain ⟨hok, _, _⟩ := pg_tok P hr hi
  obtain ⟨p, tt, eu, hp, hN⟩ := ((P r hr (by omega)).2.2.2 i hi).2.2.2 hk
  have hs : tk_so (K (40 * r + i)) = 1 := by rcases hk with h | h <;> rw [h] <;> decide
  have hn : tk_np (K (40 * r + i)) (V (40 * r + i)) = 0 := by rcases hk with h | h <;> rw [h] <;> rfl
  have pl : tk_plain (K (40 * r + i)) := by rcases hk with h | h <;> rw [h] <;> exact ⟨by decide, by decide, by decide, by decide⟩
  have nm : ¬ tr_m (ro K r) (ro V r) (V (40 * r + i)) i := fun z => pl.2.2.1 z.1
  have hNi : tr_NL (ro K r) (ro V r) (ro U r) (V (40 * r + i)) i tt := tr_NL_p nm eu hp hN
  have eR : st_w K ((r, i, 0, 0, 0, a, e0, n0, t0) :: st) = st_w K st := st_w_n (fun z => by omega)
  have hen : ∀ ee : Int32, (ee = 1 ∨ ee = 2) → en_pop K V U r i ee (V (40 * r + i)) tt := fun ee hee => ⟨by rcases hee with h | h <;> rw [h] <;> decide, fun z => by omega, fun _ => ⟨hNi, nm⟩, fun z => by rcases hee with h | h <;> rw [h] at z <;> exact absurd z (by decide)⟩
  obtain ⟨ee, eee⟩ : ∃ ee : Int32, ee = if K (40 * r + i) = 19 then 1 else 2 := ⟨_, rfl⟩
  have hee : ee = 1 ∨ ee = 2 := by rw [eee]; split <;> decide
  refine g_popped P (e' := ee) (n' := V (40 * r + i)) (v' := 0) (t' := tt) (s' := s) (q' := q) (va' := va) (ou' := ou) W (hen ee hee) b6 hq (Nat.le_refl _) (by omega) b2 ?_ (g_y0 b1 ?_)
  · intro ET EP KE KN KV post hS h; obtain ⟨s0, sT, sP, s3, sb⟩ := hS
    rw [eR]
    have h' := h (upd EP st.length (nI (0 + 1))) (fun q hq => pk_un (by omega))
    refine xn_plain b2 (by omega) sT sP hok pl (xp_fins P hr hi b2 sT (by omega) (by omega) hs ?_)
    rcases hk with hk | hk
    · rw [if_pos hk] at eee
      subst eee
      exact xg_break (by omega) hk h'
    · rw [if_neg (by rw [hk]; decide)] at eee
      subst eee
      exact xg_cont (by omega) hk h'
  · intro hd tg kd wo TK HT PH TG HW KS WR VL BG post hS hT h; obtain ⟨y0, yT, yH, yP, yC, yV, y3, yB⟩ := hS
    rw [eR]
    refine yw_s (by omega) (by omega) yT (E r hr i hi).1 yP (by rcases hk with h | h <;> rw [h] <;> decide) pl.2.2.2 pl.2.2.1 (yt_jump P E hr hi (by omega) yH hk eu hp hN ?_)
    rw [← eee]
    exact h _ _ _ _ VL (fun _ _ => rfl) (sy_pop_s W hs (st_pop W (hen ee hee)) (fun _ => rfl) (fun z => by rcases hee with h | h <;> rw [h] at z <;> exact absurd z (by decide)) (fun z => by rcases hee with h | h <;> rw [h] at z <;> exact absurd z (by decide)))
end
