section
variable {f_expectedCount f_draftLength f_latestPlace f_place f_result f_thrown : Int32} {K V Z HB EX KY U LY VY B OP va ou : Nat → Int32} {LN : Nat → Nat} {r i p y c : Nat} {a e0 n0 e n v : Int32} {t0 t s q : Nat} {st : List Fr}
/-- CALL: the function begins -/
theorem g_begin (P : pg_T K V Z U B LN) (E : pg_E K V KY VY LN) (W : st_wf K V U LN ((r, i, 1, 1, 0, a, e0, n0, t0) :: st)) (h12 : st_w K ((r, i, 1, 1, 0, a, e0, n0, t0) :: st) ≤ 12) (hq : q ≤ 300) (hk : K (40 * r + i) = 8) {f : Nat} (hf : f < 4) (hv : V (40 * r + i) = nI f) (hL : 1 ≤ LN f) (hb : HB f = 1) (hl : ¬ LY f = 0) (hq3 : q < 300) (hw : st_w K st < 12) : GD f_expectedCount f_draftLength f_latestPlace f_place f_result f_thrown K V Z HB EX KY U LY VY B OP LN ((r, i, 1, 1, 0, a, e0, n0, t0) :: st) 0 n v t s q va ou := by
  obtain ⟨b1, b2, b3, b4, b5, b6, b7, hr, hi⟩ := wf_bd P W h12
  obtain ⟨hok, _, _⟩ := pg_tok P hr hi
  have hn : tk_np (K (40 * r + i)) (V (40 * r + i)) = 1 := by rw [hk]; rfl
  obtain ⟨wf, ww⟩ := wf_call P W hk hf hL (a' := a) (e' := e0) (n' := n0) (t' := t0)
  have eR : st_w K ((r, i, 1, 1, 0, a, e0, n0, t0) :: st) = st_w K st := st_w_n (fun z => by omega)
  have eN : st_w K ((r, i, 2, 2, 0, a, e0, n0, t0) :: st) = st_w K st + 1 := by show _ + _ = _; rw [if_pos ⟨hk, rfl⟩]
  have fk : ¬ (K (40 * r + i) = 2 ∨ K (40 * r + i) = 3 ∨ K (40 * r + i) = 4 ∨ K (40 * r + i) = 5 ∨ K (40 * r + i) = 6) := by rw [hk]; decide
  have hN : st_h K ((r, i, 2, 2, 0, a, e0, n0, t0) :: st) = st_h K st := st_h_n (fr_b_k fk)
  have hR : st_h K ((r, i, 1, 1, 0, a, e0, n0, t0) :: st) = st_h K st := st_h_n (fr_b_k fk)
  have hcs : fr_cs (K (40 * r + i)) 1 = 0 := by rw [hk]; rfl
  have m0 := ph_F_le P hf (i := 0) (by omega) 0
  have m2 : ph_F K V Z r i 2 + 1 = ph_F K V Z r i 1 := by
    have h1 : fr_ix (K (40 * r + i)) (V (40 * r + i)) 1 = 1 := by rw [hk]; rfl
    have h2 : fr_ix (K (40 * r + i)) (V (40 * r + i)) 2 = 1 := by rw [hk]; rfl
    unfold ph_F
    rw [h1, h2]
  refine g_pushed P (n' := n) (v' := v) (t' := t) (s' := s) (q' := q + 1) (va' := vset va (st_w K st) v) (ou' := ou) wf (by rw [ww]; omega) (by omega) (by omega) (by omega) b2 ?_ (g_y1 b1 ?_)
  · intro ET EP KE KN KV post hS h
    obtain ⟨s0, sT, sP, s3, sb⟩ := hS
    rw [eR]
    rw [eN] at h
    exact xn_call b2 (by omega) sT sP hk (xc_1go b2 (by omega) sT hv (xb_go hf hb hq3 hw (h _ _ _ _ _ ⟨sx_keep st (fun _ _ => rfl) (fun q hq => pk_un (by omega)) (fun _ _ => rfl) (fun _ _ => rfl) (fun _ _ => rfl) s0, sT, pk_us, fun z => by omega, fun z => by rw [fr_b_k fk] at z; omega⟩)))
  · intro hd tg kd wo TK HT PH TG HW KS WR VL BG post hS hT h
    obtain ⟨y0, yT, yH, yP, yC, yV, y3, yB⟩ := hS
    rw [eR]
    rw [eN, hN] at h
    have hT1 := hT.1
    have hT2 := hT.2.1 rfl (by omega) hcs
    rw [hR, if_pos ⟨rfl, by omega, hcs⟩] at hT1
    rw [hR] at hT2
    subst hT1
    subst hT2
    refine yw_x (by omega) (by omega) yT ((E r hr i hi).1.trans hk) yP (by decide) (ye_in (hk ▸ hok) (by decide) (fun _ => by omega) (by omega) ?_)
    rw [hk] at hn
    rw [hn]
    refine yc_go (by omega) (by omega) (by omega) hf hq3 hw ((E r hr i hi).2.trans hv) hl ?_
    exact h (upd PH (st_y st) 2) TG HW KS WR (upd BG (st_y st) 1) ⟨sy_keep st (fun _ _ => rfl) (fun _ _ => rfl) (fun q hq => pk_un (by omega)) (fun _ _ => rfl) (fun _ _ => rfl) (fun _ _ => rfl) (fun _ _ => rfl) (fun _ _ => rfl) (fun q hq => pk_un (by omega)) y0, yT, yH, pk_us, fun z => (z rfl).elim, fun z => by rw [fr_b_k fk] at z; omega, fun z => by omega, fun _ _ => pk_us⟩
/-- how Y puts an ending aside -/
theorem en_aside (P : pg_T K V Z U B LN) {rr ii : Nat} (hr : rr < 4) (hi : ii < LN rr) (he : en_ok K V U rr ii e n t) {kd tg : Int32} (h12 : (e = 1 ∨ e = 2) → tg = nI (40 * rr + t)) (h4 : e = 4 → kd = n) : vp_nar .byte e.toInt8.toInt32 = e ∧ ((e = 1 ∨ e = 2) → vp_nar .short tg.toInt16.toInt32 = nI (40 * rr + t)) ∧ (e = 4 → vp_nar .byte kd.toInt8.toInt32 = n) := by
  obtain ⟨h1, h2, h3⟩ := he
  have hL := (P rr hr (by omega)).2.1
  refine ⟨?_, fun z => ?_, fun z => ?_⟩
  · rcases h1 with rfl | rfl | rfl | rfl | rfl
    · exact qb_nb8 (n := 0) (by decide)
    · exact qb_nb8 (n := 1) (by decide)
    · exact qb_nb8 (n := 2) (by decide)
    · exact qb_nb8 (n := 3) (by decide)
    · exact qb_nb8 (n := 4) (by decide)
  · have := (tr_NL_le (h2 z)).1
    rw [h12 z]
    exact qb_ns16 (by omega)
  · obtain ⟨m, hm, rfl⟩ := h3 z
    rw [h4 z]
    exact qb_nb8 (by omega)
/-- TRY: its finally part, behind the statement -/
theorem g_fin1 (P : pg_T K V Z U B LN) (E : pg_E K V KY VY LN) (W : st_wf K V U LN ((r, i, 1, 1, 0, a, e0, n0, t0) :: st)) (h12 : st_w K ((r, i, 1, 1, 0, a, e0, n0, t0) :: st) ≤ 12) (hq : q ≤ 300) (he : en_ok K V U r i e n t) (hk : K (40 * r + i) = 17) (hf : tk_fn (V (40 * r + i)) = 1) (hno : e = 4 → ∀ b, 1 ≤ b → b ≤ tk_cn (V (40 * r + i)) → ¬ ct_m V Z r i n b) : GD f_expectedCount f_draftLength f_latestPlace f_place f_result f_thrown K V Z HB EX KY U LY VY B OP LN ((r, i, 1, 1, 0, a, e0, n0, t0) :: st) e n v t s q va ou := by
  obtain ⟨b1, b2, b3, b4, b5, b6, b7, hr, hi⟩ := wf_bd P W h12
  obtain ⟨hok, _, _⟩ := pg_tok P hr hi
  have hn : tk_np (K (40 * r + i)) (V (40 * r + i)) = 1 + tk_cn (V (40 * r + i)) + 1 := by rw [hk]; unfold tk_np; rw [if_pos rfl, hf]
  have h1 : fr_ix (K (40 * r + i)) (V (40 * r + i)) 1 = 1 := by rw [hk]; rfl
  have h3 : fr_ix (K (40 * r + i)) (V (40 * r + i)) 3 = tk_np (K (40 * r + i)) (V (40 * r + i)) := by rw [hk]; rfl
  have n8 : ∀ x, ¬ (K (40 * r + i) = 8 ∧ x = 2) := fun x z => absurd (hk.symm.trans z.1) (by decide)
  have fk : ¬ (K (40 * r + i) = 2 ∨ K (40 * r + i) = 3 ∨ K (40 * r + i) = 4 ∨ K (40 * r + i) = 5 ∨ K (40 * r + i) = 6) := by rw [hk]; decide
  have hwt : tk_wt (K (40 * r + i)) (V (40 * r + i)) (1 + tk_cn (V (40 * r + i))) = fr_cs (K (40 * r + i)) 3 := by
    rw [hk]
    unfold tk_wt
    rw [if_pos rfl, if_neg (by omega)]
    rfl
  have hcs : fr_cs (K (40 * r + i)) 1 = 1 := by rw [hk]; rfl
  obtain ⟨wf, ww⟩ := wf_part P W (o := 1 + tk_cn (V (40 * r + i))) (p' := 3) (y' := 4) (a' := v) (e' := e) (n' := n) (t' := t) (by omega) (n8 _) (by omega) (Or.inl ⟨hk, Or.inr (Or.inr (Or.inr ⟨rfl, rfl, rfl, hf⟩))⟩) hwt (fun _ => he)
  have mm := ph_part P hr hi (p := 1) (p' := 3) (o := 1 + tk_cn (V (40 * r + i))) (by omega) (by omega) (by omega) (by omega) (by omega) (by omega)
  have eR : st_w K ((r, i, 1, 1, 0, a, e0, n0, t0) :: st) = st_w K st := st_w_n (n8 _)
  have eN : st_w K ((r, i, 3, 4, 0, v, e, n, t) :: st) = st_w K st := st_w_n (n8 _)
  have hN : st_h K ((r, i, 3, 4, 0, v, e, n, t) :: st) = st_h K st := st_h_n (fr_b_k fk)
  have hR : st_h K ((r, i, 1, 1, 0, a, e0, n0, t0) :: st) = st_h K st := st_h_n (fr_b_k fk)
  refine g_pushed P (n' := n) (v' := v) (t' := t) (s' := s) (q' := q) (va' := va) (ou' := ou) wf (by rw [ww]; exact b6) hq (by omega) (by omega) b2 ?_ (g_y1 b1 ?_)
  · intro ET EP KE KN KV post hS h
    obtain ⟨s0, sT, sP, s3, sb⟩ := hS
    rw [eR]
    rw [eN] at h
    have g : wX_nextOfTry_81 post (nI st.length) (nI (40 * r + i)) f_expectedCount f_draftLength f_latestPlace (nI (st.length + 1)) (nI (st_w K st)) e n v (nI s) (nI q) 0 0 (-1) K V Z HB EX ET (upd EP st.length (nI (1 + 1))) KE KN KV va ou := xt_81f P hr hi hk b2 hf (h _ _ _ _ _ ⟨sx_keep st (fun _ _ => rfl) (fun q hq => by rw [pk_un (by omega), pk_un (by omega)]) (fun q hq => pk_un (by omega)) (fun q hq => pk_un (by omega)) (fun q hq => pk_un (by omega)) s0, sT, pk_us, fun _ => ⟨pk_us, pk_us, pk_us⟩, fun z => by rw [fr_b_k fk] at z; omega⟩)
    refine xn_try b2 (by omega) sT sP hk ?_
    by_cases h4 : e = 4
    · subst h4
      refine xt_hand P hr hi hk b2 sT b7 b6 (fun c m c1 c2 cm _ _ _ => (hno rfl c c1 c2 cm).elim) (fun _ => g)
    · exact xt_1 b2 sT h4 g
  · intro hd tg kd wo TK HT PH TG HW KS WR VL BG post hS hT h
    obtain ⟨y0, yT, yH, yP, yC, yV, y3, yB⟩ := hS
    rw [eR]
    rw [eN, hN] at h
    obtain ⟨hT1, _, hT12, hT34, hT4⟩ := hT
    rw [hR, if_neg (fun z => by omega)] at hT1
    subst hT1
    obtain ⟨q1, q2, q3⟩ := en_aside P hr hi he hT12 hT4
    have g : wY_attempt_47 post (nI (40 * r + i)) (nI 1) (nI (tk_cn (V (40 * r + i)))) (nI (1 + tk_cn (V (40 * r + i)))) 0 f_place (nI (st_y st + 1)) (nI (st_h K st)) (nI (st_w K st)) e tg kd wo (nI q) (nI s) f_result f_thrown 0 KY U LY VY B OP TK HT TG PH HW KS WR VL va BG ou := by
      refine yz_fin P E hr hi hk (by omega) (by omega) hf (by omega) (by omega) yT ?_
      have e5 : upd (upd (upd PH (st_y st) (nI (1 + tk_cn (V (40 * r + i)) + 1))) (st_y st + 1) 0) (st_y st) 4 = upd (upd PH (st_y st) 4) (st_y st + 1) 0 := by
        funext z
        unfold upd
        by_cases z1 : z = st_y st
        · rw [if_pos z1, if_neg (by omega), if_pos z1]
        · rw [if_neg z1]
          by_cases z2 : z = st_y st + 1
          · rw [if_pos z2, if_pos z2]
          · rw [if_neg z2, if_neg z2, if_neg z1, if_neg z1]
      rw [e5]
      exact h _ _ _ _ _ _ ⟨sy_keep st (fun _ _ => rfl) (fun _ _ => rfl) (fun q hq => pk_un (by omega)) (fun q hq => pk_un (by omega)) (fun q hq => pk_un (by omega)) (fun q hq => pk_un (by omega)) (fun q hq => pk_un (by omega)) (fun _ _ => rfl) (fun _ _ => rfl) y0, yT, yH, pk_us, fun z => (z rfl).elim, fun z => by rw [fr_b_k fk] at z; omega, fun _ => ⟨pk_us.trans q1, fun z => pk_us.trans (q2 z), fun z => pk_us.trans (hT34 z), fun z => pk_us.trans (q3 z)⟩, fun z => absurd (hk.symm.trans z) (by decide)⟩
    refine yw_t (by omega) (by omega) yT ((E r hr i hi).1.trans hk) yP ?_
    by_cases h4 : e = 4
    · subst h4
      have := hT4 rfl
      subst this
      exact yz_nohand P E hr hi hk (hno rfl) g
    · exact yz_46 P E hr hi hk (by omega) (by omega) (fun _ => h4) g
end
