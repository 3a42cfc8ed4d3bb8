section
variable {f_expectedCount f_draftLength f_latestPlace f_place f_result f_thrown : Int32} {K V Z HB EX KY U LY VY B OP va ou : Nat → Int32} {LN : Nat → Nat} {r i p y c : Nat} {a e0 n0 e n v : Int32} {t0 t s q : Nat} {st : List Fr}
theorem st_y2 (hc : 1 ≤ c) : st_y ((r, i, p, y, c, a, e0, n0, t0) :: st) = st_y st + 1 + 1 := by
  show st_y st + _ = _
  rw [if_neg (by omega)]
theorem ct_one {c c' : Nat} (c1 : 1 ≤ c) (cm : ct_m V Z r i n c) (cf : ∀ b, 1 ≤ b → b < c → ¬ ct_m V Z r i n b) (c1' : 1 ≤ c') (cm' : ct_m V Z r i n c') (cf' : ∀ b, 1 ≤ b → b < c' → ¬ ct_m V Z r i n b) : c' = c := by
  rcases Nat.lt_trichotomy c' c with z | z | z
  · exact (cf c' c1' z cm').elim
  · exact z
  · exact (cf' c c1 z cm).elim
/-- TRY: a catch takes the exception -/
theorem g_hand (P : pg_T K V Z U B LN) (E : pg_E K V KY VY LN) (W : st_wf K V U LN ((r, i, 1, 1, 0, a, e0, n0, t0) :: st)) (h12 : st_w K ((r, i, 1, 1, 0, a, e0, n0, t0) :: st) ≤ 12) (hq : q ≤ 300) (hk : K (40 * r + i) = 17) {c : Nat} (c1 : 1 ≤ c) (c2 : c ≤ tk_cn (V (40 * r + i))) (cm : ct_m V Z r i n c) (cf : ∀ b, 1 ≤ b → b < c → ¬ ct_m V Z r i n b) : GD f_expectedCount f_draftLength f_latestPlace f_place f_result f_thrown K V Z HB EX KY U LY VY B OP LN ((r, i, 1, 1, 0, a, e0, n0, t0) :: st) 4 n v t s q va ou := by
  obtain ⟨b1, b2, b3, b4, b5, b6, b7, hr, hi⟩ := wf_bd P W h12
  obtain ⟨t1, t2, t3, t4, t5, t6, t7, t8, t9, t10⟩ := tr_catch P hr hi hk c1 c2
  have Tr := P r hr (by omega)
  have hL := Tr.2.1
  have hcn := tk_cn_le (V (40 * r + i))
  have hokc : tk_ok (K (40 * r + tr_ca (ro Z r) i c)) (V (40 * r + tr_ca (ro Z r) i c)) := (Tr.2.2.2 _ t2).1
  rw [t3] at hokc
  obtain ⟨m, hm, em, _⟩ := tk_cat hokc
  obtain ⟨wf, ww⟩ := wf_hand P W hk c1 c2 (a' := a) (e' := e0) (n' := n0) (t' := t0)
  have n8 : ∀ x, ¬ (K (40 * r + i) = 8 ∧ x = 2) := fun x z => absurd (hk.symm.trans z.1) (by decide)
  have fk : ¬ (K (40 * r + i) = 2 ∨ K (40 * r + i) = 3 ∨ K (40 * r + i) = 4 ∨ K (40 * r + i) = 5 ∨ K (40 * r + i) = 6) := by rw [hk]; decide
  have eR : st_w K ((r, i, 1, 1, 0, a, e0, n0, t0) :: st) = st_w K st := st_w_n (n8 _)
  have eN : st_w K ((r, i, 2, c + 1, c, a, e0, n0, t0) :: st) = st_w K st := st_w_n (n8 _)
  have hN : st_h K ((r, i, 2, c + 1, c, a, e0, n0, t0) :: st) = st_h K st := st_h_n (fr_b_k fk)
  have hR : st_h K ((r, i, 1, 1, 0, a, e0, n0, t0) :: st) = st_h K st := st_h_n (fr_b_k fk)
  have eY : st_y ((r, i, 2, c + 1, c, a, e0, n0, t0) :: st) = st_y st + 1 + 1 := st_y2 c1
  have h1 : fr_ix (K (40 * r + i)) (V (40 * r + i)) 1 = 1 := by rw [hk]; rfl
  have h2 : fr_ix (K (40 * r + i)) (V (40 * r + i)) 2 = 1 + tk_cn (V (40 * r + i)) := by rw [hk]; rfl
  have hn : 1 + tk_cn (V (40 * r + i)) ≤ tk_np (K (40 * r + i)) (V (40 * r + i)) := by rw [hk]; unfold tk_np; rw [if_pos rfl]; omega
  obtain ⟨sz, z1, z2, z3, z4, z5⟩ := tr_sz Tr t4
  have z5' : (Z (40 * r + (tr_ca (ro Z r) i c + 1))).toNatClampNeg = sz := z5
  have mm := ph_push P hr hi (p := 1) (p' := 2) (o := c) (j := tr_ca (ro Z r) i c + 1) z5' z2 t1 (by omega) (by omega) (by omega) (by omega) (by omega) (by omega) (by rw [t9, z5']; exact Nat.le_refl _)
  refine g_pushed P (n' := n) (v' := v) (t' := t) (s' := s) (q' := q) (va' := upd va (6 * (st_w K st - 1) + m / 8) v) (ou' := ou) wf (by rw [ww]; exact b6) hq (by omega) (by omega) b2 ?_ ⟨2, ?_⟩
  · intro ET EP KE KN KV post hS h
    obtain ⟨s0, sT, sP, s3, sb⟩ := hS
    rw [eR]
    rw [eN] at h
    refine xn_try b2 (by omega) sT sP hk (xt_hand P hr hi hk b2 sT b7 b6 (fun c' m' c1' c2' cm' cf' em' hm' => ?_) (fun hno => (hno c c1 c2 cm).elim))
    have := ct_one c1 cm cf c1' cm' cf'
    subst this
    have : m' = m := (nI_eq (by omega) (by omega)).mp (em'.symm.trans em)
    subst this
    exact h _ _ _ _ _ ⟨sx_keep st (fun _ _ => rfl) (fun q hq => pk_un (by omega)) (fun _ _ => rfl) (fun _ _ => rfl) (fun _ _ => rfl) s0, sT, pk_us, fun z => by omega, fun z => by rw [fr_b_k fk] at z; omega⟩
  · intro post mm h hd tg kd wo TK HT PH TG HW KS WR VL BG hS hT
    obtain ⟨y0, yT, yH, yP, yC, yV, y3, yB⟩ := hS
    obtain ⟨hT1, _, _, hT34, hT4⟩ := hT
    rw [hR, if_neg (fun z => absurd z.1 (by decide))] at hT1
    subst hT1
    have ew := hT34 (Or.inr rfl)
    have ek := hT4 rfl
    subst ew ek
    rw [eR]
    refine ys_enter (m := mm + 1) (T := st_y st) (by omega) (yw_t (by omega) (by omega) yT ((E r hr i hi).1.trans hk) yP (yz_hand P E hr hi hk b7 b6 c1 c2 cm cf em hm (by omega) (by omega) yT ?_))
    refine ys_enter (m := mm) (T := st_y st + 1) (by omega) (yw_s (k := 18) (y := 0) (j := 40 * r + tr_ca (ro Z r) i c) (by omega) (by omega) pk_us ((E r hr _ t2).1.trans t3) pk_us (by decide) (by decide) (by decide) (yt_first P hr t2 (by omega) (by omega) pk_us (by rw [t3]; exact Nat.le_refl 1) ?_ (by decide)))
    have g := yk_push (tg := tg) (kd := kd) (wo := wo) (st := (r, i, 2, c + 1, c, a, e0, n0, t0) :: st) (TK := upd TK (st_y st + 1) (nI (40 * r + tr_ca (ro Z r) i c))) (HT := upd HT (st_y st + 1) (nI (st_h K st))) (PH := upd (upd (upd PH (st_y st) (nI (c + 1))) (st_y st + 1) 0) (st_y st + 1) 1) (TG := TG) (HW := HW) (KS := KS) (WR := WR) (VL := VL) (BG := BG) ⟨sy_keep st (fun q hq => pk_un (by omega)) (fun q hq => pk_un (by omega)) (fun q hq => by rw [pk_un (by omega), pk_un (by omega), pk_un (by omega)]) (fun _ _ => rfl) (fun _ _ => rfl) (fun _ _ => rfl) (fun _ _ => rfl) (fun _ _ => rfl) (fun _ _ => rfl) y0, (pk_un (by omega)).trans yT, (pk_un (by omega)).trans yH, by rw [pk_un (by omega), pk_un (by omega), pk_us], fun _ => ⟨pk_us, pk_us, pk_us⟩, fun z => by rw [fr_b_k fk] at z; omega, fun z => by omega, fun z => absurd (hk.symm.trans z) (by decide)⟩ h
    rw [eY, eN, hN] at g
    exact g
/-- Y: the catch that has done its work goes -/
theorem y_catch (P : pg_T K V Z U B LN) (E : pg_E K V KY VY LN) (W : st_wf K V U LN ((r, i, 2, c + 1, c, a, e0, n0, t0) :: st)) (h12 : st_w K ((r, i, 2, c + 1, c, a, e0, n0, t0) :: st) ≤ 12) (hk : K (40 * r + i) = 17) (c1 : 1 ≤ c) (c2 : c ≤ tk_cn (V (40 * r + i))) {hd tg kd wo : Int32} {TK HT PH TG HW KS WR VL BG : Nat → Int32} {post : Int32 → SY → Prop} {m : Nat} (hS : sy_S K Z TK HT PH TG HW KS WR VL BG ((r, i, 2, c + 1, c, a, e0, n0, t0) :: st)) (h : wpY_work (yc_K post m) (f_place, nI (st_y st + 1), nI (st_h K st), nI (st_w K st), e, tg, kd, wo, nI q, nI s, f_result, f_thrown, 0, KY, U, LY, VY, B, OP, TK, HT, TG, PH, HW, KS, WR, VL, va, BG, ou)) : wY_run_51 post (m + 1 + 1) f_place (nI (st_y ((r, i, 2, c + 1, c, a, e0, n0, t0) :: st))) hd (nI (st_w K ((r, i, 2, c + 1, c, a, e0, n0, t0) :: st))) e tg kd wo (nI q) (nI s) f_result f_thrown 0 KY U LY VY B OP TK HT TG PH HW KS WR VL va BG ou := by
  obtain ⟨b1, b2, b3, b4, b5, b6, b7, hr, hi⟩ := wf_bd P W h12
  obtain ⟨y0, yT, yH, yP, yC, yV, y3, yB⟩ := hS
  obtain ⟨yC1, yC2, yC3⟩ := yC (by omega)
  obtain ⟨t1, t2, t3, t4, t5, t6, t7, t8, t9, t10⟩ := tr_catch P hr hi hk c1 c2
  have Tr := P r hr (by omega)
  have hL := Tr.2.1
  rw [st_y2 c1, st_w_n (fun z => absurd (hk.symm.trans z.1) (by decide))]
  have nx : yc_K post (m + 1) (f_place, nI (st_y st + 1), nI (st_h K st), nI (st_w K st), e, tg, kd, wo, nI q, nI s, f_result, f_thrown, 0, KY, U, LY, VY, B, OP, TK, HT, TG, PH, HW, KS, WR, VL, va, BG, ou) := ys_enter (T := st_y st) (by omega) h
  refine ys_enter (m := m + 1) (T := st_y st + 1) (by omega) (yw_s (k := 18) (y := 1) (j := 40 * r + tr_ca (ro Z r) i c) (by omega) (by omega) yC1 ((E r hr _ t2).1.trans t3) yC3 (by decide) (by decide) (by decide) ?_)
  by_cases he : e = 0
  · subst he
    exact yt_end (by omega) yC2 nx (Or.inr (Or.inr ⟨rfl, rfl⟩))
  · exact yt_out (by omega) yC2 nx (by decide) (Or.inl rfl) he
/-- TRY: its finally part, behind a catch -/
theorem g_fin2 (P : pg_T K V Z U B LN) (E : pg_E K V KY VY LN) (W : st_wf K V U LN ((r, i, 2, c + 1, c, a, e0, n0, t0) :: st)) (h12 : st_w K ((r, i, 2, c + 1, c, a, e0, n0, t0) :: st) ≤ 12) (hq : q ≤ 300) (he : en_ok K V U r i e n t) (hk : K (40 * r + i) = 17) (c1 : 1 ≤ c) (c2 : c ≤ tk_cn (V (40 * r + i))) (hf : tk_fn (V (40 * r + i)) = 1) : GD f_expectedCount f_draftLength f_latestPlace f_place f_result f_thrown K V Z HB EX KY U LY VY B OP LN ((r, i, 2, c + 1, c, a, e0, n0, t0) :: st) e n v t s q va ou := by
  obtain ⟨b1, b2, b3, b4, b5, b6, b7, hr, hi⟩ := wf_bd P W h12
  obtain ⟨hok, _, _⟩ := pg_tok P hr hi
  have hcn := tk_cn_le (V (40 * r + i))
  have hn : tk_np (K (40 * r + i)) (V (40 * r + i)) = 1 + tk_cn (V (40 * r + i)) + 1 := by rw [hk]; unfold tk_np; rw [if_pos rfl, hf]
  have h2 : fr_ix (K (40 * r + i)) (V (40 * r + i)) 2 = 1 + tk_cn (V (40 * r + i)) := by rw [hk]; rfl
  have h3 : fr_ix (K (40 * r + i)) (V (40 * r + i)) 3 = tk_np (K (40 * r + i)) (V (40 * r + i)) := by rw [hk]; rfl
  have n8 : ∀ x, ¬ (K (40 * r + i) = 8 ∧ x = 2) := fun x z => absurd (hk.symm.trans z.1) (by decide)
  have fk : ¬ (K (40 * r + i) = 2 ∨ K (40 * r + i) = 3 ∨ K (40 * r + i) = 4 ∨ K (40 * r + i) = 5 ∨ K (40 * r + i) = 6) := by rw [hk]; decide
  have hwt : tk_wt (K (40 * r + i)) (V (40 * r + i)) (1 + tk_cn (V (40 * r + i))) = fr_cs (K (40 * r + i)) 3 := by
    rw [hk]
    unfold tk_wt
    rw [if_pos rfl, if_neg (by omega)]
    rfl
  have hcs : fr_cs (K (40 * r + i)) 2 = 1 := by rw [hk]; rfl
  obtain ⟨wf, ww⟩ := wf_part P W (o := 1 + tk_cn (V (40 * r + i))) (p' := 3) (y' := 4) (a' := v) (e' := e) (n' := n) (t' := t) (by omega) (n8 _) (by omega) (Or.inl ⟨hk, Or.inr (Or.inr (Or.inr ⟨rfl, rfl, rfl, hf⟩))⟩) hwt (fun _ => he)
  have mm := ph_part P hr hi (p := 2) (p' := 3) (o := 1 + tk_cn (V (40 * r + i))) (by omega) (by omega) (by omega) (by omega) (by omega) (by omega)
  have eR : st_w K ((r, i, 2, c + 1, c, a, e0, n0, t0) :: st) = st_w K st := st_w_n (n8 _)
  have eN : st_w K ((r, i, 3, 4, 0, v, e, n, t) :: st) = st_w K st := st_w_n (n8 _)
  have hN : st_h K ((r, i, 3, 4, 0, v, e, n, t) :: st) = st_h K st := st_h_n (fr_b_k fk)
  have hR : st_h K ((r, i, 2, c + 1, c, a, e0, n0, t0) :: st) = st_h K st := st_h_n (fr_b_k fk)
  refine g_pushed P (n' := n) (v' := v) (t' := t) (s' := s) (q' := q) (va' := va) (ou' := ou) wf (by rw [ww]; exact b6) hq (by omega) (by omega) b2 ?_ ⟨2, ?_⟩
  · intro ET EP KE KN KV post hS h
    obtain ⟨s0, sT, sP, s3, sb⟩ := hS
    rw [eR]
    rw [eN] at h
    exact xn_try b2 (by omega) sT sP hk (xt_2 b2 sT (xt_81f P hr hi hk b2 hf (h _ _ _ _ _ ⟨sx_keep st (fun _ _ => rfl) (fun q hq => by rw [pk_un (by omega), pk_un (by omega)]) (fun q hq => pk_un (by omega)) (fun q hq => pk_un (by omega)) (fun q hq => pk_un (by omega)) s0, sT, pk_us, fun _ => ⟨pk_us, pk_us, pk_us⟩, fun z => by rw [fr_b_k fk] at z; omega⟩)))
  · intro post mm h hd tg kd wo TK HT PH TG HW KS WR VL BG hS hT
    refine y_catch P E W h12 hk c1 c2 hS ?_
    obtain ⟨y0, yT, yH, yP, yC, yV, y3, yB⟩ := hS
    obtain ⟨hT1, _, hT12, hT34, hT4⟩ := hT
    obtain ⟨q1, q2, q3⟩ := en_aside P hr hi he hT12 hT4
    refine yw_t (by omega) (by omega) yT ((E r hr i hi).1.trans hk) yP (yz_46 P E hr hi hk (by omega) (by omega) (fun z => by omega) (yz_fin P E hr hi hk (by omega) (by omega) hf (by omega) (by omega) yT ?_))
    have e5 : upd (upd (upd PH (st_y st) (nI (1 + tk_cn (V (40 * r + i)) + 1))) (st_y st + 1) 0) (st_y st) 4 = upd (upd PH (st_y st) 4) (st_y st + 1) 0 := by
      funext z
      unfold upd
      by_cases z1 : z = st_y st
      · rw [if_pos z1, if_neg (by omega), if_pos z1]
      · rw [if_neg z1]
        by_cases z2 : z = st_y st + 1
        · rw [if_pos z2, if_pos z2]
        · rw [if_neg z2, if_neg z2, if_neg z1, if_neg z1]
    rw [e5]
    have g := yk_push (tg := tg) (kd := kd) (wo := wo) (st := (r, i, 3, 4, 0, v, e, n, t) :: st) (TK := TK) (HT := HT) (PH := upd PH (st_y st) 4) (TG := upd TG (st_y st) (vp_nar .short tg.toInt16.toInt32)) (HW := upd HW (st_y st) (vp_nar .byte e.toInt8.toInt32)) (KS := upd KS (st_y st) (vp_nar .byte kd.toInt8.toInt32)) (WR := upd WR (st_y st) wo) (VL := VL) (BG := BG) ⟨sy_keep st (fun _ _ => rfl) (fun _ _ => rfl) (fun q hq => pk_un (by omega)) (fun q hq => pk_un (by omega)) (fun q hq => pk_un (by omega)) (fun q hq => pk_un (by omega)) (fun q hq => pk_un (by omega)) (fun _ _ => rfl) (fun _ _ => rfl) y0, yT, yH, pk_us, fun z => (z rfl).elim, fun z => by rw [fr_b_k fk] at z; omega, fun _ => ⟨pk_us.trans q1, fun z => pk_us.trans (q2 z), fun z => pk_us.trans (hT34 z), fun z => pk_us.trans (q3 z)⟩, fun z => absurd (hk.symm.trans z) (by decide)⟩ h
    rw [eN, hN] at g
    exact g
end
