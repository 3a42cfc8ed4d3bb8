section
variable {f_expectedCount f_draftLength f_latestPlace f_place f_result f_thrown : Int32} {K V Z HB EX KY U LY VY B OP va ou : Nat → Int32} {LN : Nat → Nat} {r i p y c : Nat} {a e0 n0 e n v : Int32} {t0 t s q : Nat} {st : List Fr}
/-- a part begins, and no value is held over it -/
theorem g_part (P : pg_T K V Z U B LN) (E : pg_E K V KY VY LN) (W : st_wf K V U LN ((r, i, p, y, 0, a, e0, n0, t0) :: st)) (h12 : st_w K ((r, i, p, y, 0, a, e0, n0, t0) :: st) ≤ 12) (hq : q ≤ 300) {o p' y' q' : Nat} (ho : o < tk_np (K (40 * r + i)) (V (40 * r + i))) (nc : ¬ (K (40 * r + i) = 8 ∧ p = 2)) (nc' : ¬ (K (40 * r + i) = 8 ∧ p' = 2)) (hp1 : 1 ≤ p') (hp2 : p' ≤ 2) (ok : fr_ok (K (40 * r + i)) (V (40 * r + i)) p' y' 0) (hw : tk_wt (K (40 * r + i)) (V (40 * r + i)) o = fr_cs (K (40 * r + i)) p') (fb : fr_b (K (40 * r + i)) p = 0) (fb' : fr_b (K (40 * r + i)) p' = 0) (hq' : q' ≤ 300) (hm : ph_F K V Z r (tr_ca (ro Z r) i o) 0 + ph_F K V Z r i p' + 201 * (300 - q') < ph_F K V Z r i p + 201 * (300 - q))
    (hX : ∀ (ET EP KE KN KV : Nat → Int32) (post : Int32 → SX → Prop), ET st.length = nI (40 * r + i) → EP st.length = nI p → (∀ (ee : Int32) (EP' KV' : Nat → Int32), EP' st.length = nI p' → (∀ q, q < st.length → EP' q = EP q) → (∀ q, q < st.length → KV' q = KV q) → post (nI (40 * r + tr_ca (ro Z r) i o)) (f_expectedCount, f_draftLength, f_latestPlace, nI (st.length + 1), nI (st_w K st), ee, n, v, nI s, nI q', 0, 0, -1, K, V, Z, HB, EX, ET, EP', KE, KN, KV', va, ou)) → wpX_nextPart post (f_expectedCount, f_draftLength, f_latestPlace, nI (st.length + 1), nI (st_w K st), e, n, v, nI s, nI q, 0, 0, -1, K, V, Z, HB, EX, ET, EP, KE, KN, KV, va, ou))
    (hY : ∀ (hd tg kd wo : Int32) (TK HT PH TG HW KS WR VL BG : Nat → Int32) (post : SY → Prop), TK (st_y st) = nI (40 * r + i) → PH (st_y st) = nI y → hd = nI (st_h K st + (if e = 0 ∧ 1 ≤ p ∧ fr_cs (K (40 * r + i)) p = 0 then 1 else 0)) → (e = 0 → 1 ≤ p → fr_cs (K (40 * r + i)) p = 0 → VL (st_h K st) = v) → ((e = 1 ∨ e = 2) → tg = nI (40 * r + t)) → post (f_place, nI (st_y st + 1 + 1), nI (st_h K st), nI (st_w K st), 0, tg, kd, wo, nI q', nI s, f_result, f_thrown, 0, KY, U, LY, VY, B, OP, upd TK (st_y st + 1) (nI (40 * r + tr_ca (ro Z r) i o)), upd HT (st_y st + 1) (nI (st_h K st)), TG, upd (upd PH (st_y st) (nI y')) (st_y st + 1) 0, HW, KS, WR, VL, va, BG, ou) → wpY_work post (f_place, nI (st_y st + 1), hd, nI (st_w K st), e, tg, kd, wo, nI q, nI s, f_result, f_thrown, 0, KY, U, LY, VY, B, OP, TK, HT, TG, PH, HW, KS, WR, VL, va, BG, ou)) : GD f_expectedCount f_draftLength f_latestPlace f_place f_result f_thrown K V Z HB EX KY U LY VY B OP LN ((r, i, p, y, 0, a, e0, n0, t0) :: st) e n v t s q va ou := by
  obtain ⟨b1, b2, b3, b4, b5, b6, b7, hr, hi⟩ := wf_bd P W h12
  obtain ⟨wf, ww⟩ := wf_part P W (a' := a) (e' := e0) (n' := n0) (t' := t0) (y' := y') ho nc' hp1 ok hw (fun z => by omega)
  have eR : st_w K ((r, i, p, y, 0, a, e0, n0, t0) :: st) = st_w K st := st_w_n nc
  have eN : st_w K ((r, i, p', y', 0, a, e0, n0, t0) :: st) = st_w K st := st_w_n nc'
  have hN : st_h K ((r, i, p', y', 0, a, e0, n0, t0) :: st) = st_h K st := st_h_n fb'
  have hR : st_h K ((r, i, p, y, 0, a, e0, n0, t0) :: st) = st_h K st := st_h_n fb
  refine g_pushed P (n' := n) (v' := v) (t' := t) (s' := s) (va' := va) (ou' := ou) wf (by rw [ww]; exact b6) hq' hm (by omega) b2 ?_ (g_y1 b1 ?_)
  · intro ET EP KE KN KV post hS h
    obtain ⟨s0, sT, sP, s3, sb⟩ := hS
    rw [eR]
    rw [eN] at h
    exact hX ET EP KE KN KV post sT sP (fun ee EP' KV' q1 q2 q3 => h ee EP' KE KN KV' ⟨sx_keep st (fun _ _ => rfl) q2 (fun _ _ => rfl) (fun _ _ => rfl) q3 s0, sT, q1, fun z => by omega, fun z => by omega⟩)
  · intro hd tg kd wo TK HT PH TG HW KS WR VL BG post hS hT h
    obtain ⟨y0, yT, yH, yP, yC, yV, y3, yB⟩ := hS
    rw [eR]
    rw [eN, hN] at h
    have hT1 := hT.1
    have hT2 := hT.2.1
    rw [hR] at hT1 hT2
    refine hY hd tg kd wo TK HT PH TG HW KS WR VL BG post yT yP hT1 hT2 hT.2.2.1 (h (upd PH (st_y st) (nI y')) TG HW KS WR BG ⟨sy_keep st (fun _ _ => rfl) (fun _ _ => rfl) (fun q hq => pk_un (by omega)) (fun _ _ => rfl) (fun _ _ => rfl) (fun _ _ => rfl) (fun _ _ => rfl) (fun _ _ => rfl) (fun _ _ => rfl) y0, yT, yH, pk_us, fun z => (z rfl).elim, fun z => by omega, fun z => by omega, fun z1 z2 => (nc' ⟨z1, z2⟩).elim⟩)
/-- CALL: its argument -/
theorem g_call0 (P : pg_T K V Z U B LN) (E : pg_E K V KY VY LN) (W : st_wf K V U LN ((r, i, 0, 0, 0, a, e0, n0, t0) :: st)) (h12 : st_w K ((r, i, 0, 0, 0, a, e0, n0, t0) :: st) ≤ 12) (hq : q ≤ 300) (hk : K (40 * r + i) = 8) : GD f_expectedCount f_draftLength f_latestPlace f_place f_result f_thrown K V Z HB EX KY U LY VY B OP LN ((r, i, 0, 0, 0, a, e0, n0, t0) :: st) 0 n v t s q va ou := by
  obtain ⟨b1, b2, b3, b4, b5, b6, b7, hr, hi⟩ := wf_bd P W h12
  obtain ⟨hok, _, _⟩ := pg_tok P hr hi
  have hn : tk_np (K (40 * r + i)) (V (40 * r + i)) = 1 := by rw [hk]; rfl
  have h1 : fr_ix (K (40 * r + i)) (V (40 * r + i)) 1 = 1 := by rw [hk]; rfl
  have mm := ph_part P hr hi (p := 0) (p' := 1) (o := 0) (by omega) (by rw [fr_ix0]; exact Nat.le_refl _) (by omega) (by omega) (by omega) (by omega)
  refine g_part P E W h12 hq (o := 0) (p' := 1) (y' := 1) (q' := q) (by omega) (fun z => by omega) (fun z => by omega) (by omega) (by omega) (Or.inr (Or.inr (Or.inl ⟨Or.inr hk, rfl, by omega, rfl⟩))) (by rw [hk]; rfl) (fr_b_n (by omega)) (fr_b_n (by omega)) hq (by omega) ?_ ?_
  · intro ET EP KE KN KV post sT sP h
    exact xn_call b2 (by omega) sT sP hk (xc_0 b2 sT (h _ _ _ pk_us (fun q hq => pk_un (by omega)) (fun _ _ => rfl)))
  · intro hd tg kd wo TK HT PH TG HW KS WR VL BG post yT yP e1 _ _ h
    rw [if_neg (fun z => by omega)] at e1
    subst e1
    exact yw_x (by omega) (by omega) yT (E r hr i hi).1 yP (by rw [hk]; decide) (ye_in hok (by rw [hk]; decide) (fun _ => by omega) (by omega) (ye_part P hr hi (by omega) (by omega) yT (by omega) h))
/-- the first part of a statement -/
theorem g_stmt0 (P : pg_T K V Z U B LN) (E : pg_E K V KY VY LN) (W : st_wf K V U LN ((r, i, 0, 0, 0, a, e0, n0, t0) :: st)) (h12 : st_w K ((r, i, 0, 0, 0, a, e0, n0, t0) :: st) ≤ 12) (hq : q ≤ 300) (hk : K (40 * r + i) = 10 ∨ K (40 * r + i) = 11 ∨ K (40 * r + i) = 14 ∨ K (40 * r + i) = 16 ∨ K (40 * r + i) = 21) : GD f_expectedCount f_draftLength f_latestPlace f_place f_result f_thrown K V Z HB EX KY U LY VY B OP LN ((r, i, 0, 0, 0, a, e0, n0, t0) :: st) 0 n v t s q va ou := by
  obtain ⟨b1, b2, b3, b4, b5, b6, b7, hr, hi⟩ := wf_bd P W h12
  obtain ⟨hok, _, _⟩ := pg_tok P hr hi
  have hn : 1 ≤ tk_np (K (40 * r + i)) (V (40 * r + i)) := by rcases hk with h | h | h | h | h <;> rw [h] <;> first | exact Nat.le_refl 1 | exact Nat.le_succ 1
  have h1 : fr_ix (K (40 * r + i)) (V (40 * r + i)) 1 = 1 := by rcases hk with h | h | h | h | h <;> rw [h] <;> rfl
  have pl : tk_plain (K (40 * r + i)) := by rcases hk with h | h | h | h | h <;> rw [h] <;> exact ⟨by decide, by decide, by decide, by decide⟩
  have mm := ph_part P hr hi (p := 0) (p' := 1) (o := 0) (by omega) (by rw [fr_ix0]; exact Nat.le_refl _) (by omega) (by omega) (by omega) (by omega)
  refine g_part P E W h12 hq (o := 0) (p' := 1) (y' := 1) (q' := q) (by omega) (fun z => by omega) (fun z => by omega) (by omega) (by omega) (Or.inr (Or.inr (Or.inr ⟨pl.2.2.2, pl.2.1, pl.2.2.1, pl.1, rfl, rfl, hn, by omega⟩))) (by rcases hk with h | h | h | h | h <;> rw [h] <;> rfl) (fr_b_n (by omega)) (fr_b_n (by omega)) hq (by omega) ?_ ?_
  · intro ET EP KE KN KV post sT sP h
    exact xn_plain b2 (by omega) sT sP hok pl (xp_push P hr hi b2 sT (by omega) (h _ _ _ pk_us (fun q hq => pk_un (by omega)) (fun q hq => pk_un (by omega))))
  · intro hd tg kd wo TK HT PH TG HW KS WR VL BG post yT yP e1 _ _ h
    rw [if_neg (fun z => by omega)] at e1
    subst e1
    refine yw_s (by omega) (by omega) yT (E r hr i hi).1 yP (by rcases hk with h | h | h | h | h <;> rw [h] <;> decide) pl.2.2.2 pl.2.2.1 (yt_first P hr hi (by omega) (by omega) yT (by omega) h (by rcases hk with h | h | h | h | h <;> rw [h] <;> decide))
/-- IF: its condition -/
theorem g_if0 (P : pg_T K V Z U B LN) (E : pg_E K V KY VY LN) (W : st_wf K V U LN ((r, i, 0, 0, 0, a, e0, n0, t0) :: st)) (h12 : st_w K ((r, i, 0, 0, 0, a, e0, n0, t0) :: st) ≤ 12) (hq : q ≤ 300) (hk : K (40 * r + i) = 12) : GD f_expectedCount f_draftLength f_latestPlace f_place f_result f_thrown K V Z HB EX KY U LY VY B OP LN ((r, i, 0, 0, 0, a, e0, n0, t0) :: st) 0 n v t s q va ou := by
  obtain ⟨b1, b2, b3, b4, b5, b6, b7, hr, hi⟩ := wf_bd P W h12
  have hn : tk_np (K (40 * r + i)) (V (40 * r + i)) = 3 := by rw [hk]; rfl
  have h1 : fr_ix (K (40 * r + i)) (V (40 * r + i)) 1 = 1 := by rw [hk]; rfl
  have mm := ph_part P hr hi (p := 0) (p' := 1) (o := 0) (by omega) (by rw [fr_ix0]; exact Nat.le_refl _) (by omega) (by omega) (by omega) (by omega)
  refine g_part P E W h12 hq (o := 0) (p' := 1) (y' := 1) (q' := q) (by omega) (fun z => by omega) (fun z => by omega) (by omega) (by omega) (Or.inr (Or.inl ⟨hk, rfl, Or.inr (Or.inl ⟨rfl, rfl⟩)⟩)) (by rw [hk]; rfl) (fr_b_n (by omega)) (fr_b_n (by omega)) hq (by omega) ?_ ?_
  · intro ET EP KE KN KV post sT sP h
    exact xn_if b2 (by omega) sT sP hk (xi_0 (h _ _ _ pk_us (fun q hq => pk_un (by omega)) (fun _ _ => rfl)))
  · intro hd tg kd wo TK HT PH TG HW KS WR VL BG post yT yP e1 _ _ h
    rw [if_neg (fun z => by omega)] at e1
    subst e1
    exact yw_s (by omega) (by omega) yT ((E r hr i hi).1.trans hk) yP (by decide) (by decide) (by decide) (yt_first P hr hi (by omega) (by omega) yT (by omega) h (by decide))
/-- IF: the statement that is chosen -/
theorem g_if1 (P : pg_T K V Z U B LN) (E : pg_E K V KY VY LN) (W : st_wf K V U LN ((r, i, 1, 1, 0, a, e0, n0, t0) :: st)) (h12 : st_w K ((r, i, 1, 1, 0, a, e0, n0, t0) :: st) ≤ 12) (hq : q ≤ 300) (hk : K (40 * r + i) = 12) : GD f_expectedCount f_draftLength f_latestPlace f_place f_result f_thrown K V Z HB EX KY U LY VY B OP LN ((r, i, 1, 1, 0, a, e0, n0, t0) :: st) 0 n v t s q va ou := by
  obtain ⟨b1, b2, b3, b4, b5, b6, b7, hr, hi⟩ := wf_bd P W h12
  have hn : tk_np (K (40 * r + i)) (V (40 * r + i)) = 3 := by rw [hk]; rfl
  have h1 : fr_ix (K (40 * r + i)) (V (40 * r + i)) 1 = 1 := by rw [hk]; rfl
  have h2 : fr_ix (K (40 * r + i)) (V (40 * r + i)) 2 = 3 := by rw [hk]; rfl
  have hcs : fr_cs (K (40 * r + i)) 1 = 0 := by rw [hk]; rfl
  have ho : ∀ o, o = (if v = 0 then 2 else 1) → o = 1 ∨ o = 2 := fun o e => by rw [e]; split <;> omega
  obtain ⟨o, eo⟩ : ∃ o, o = (if v = 0 then 2 else 1) := ⟨_, rfl⟩
  have ho := ho o eo
  have mm := ph_part P hr hi (p := 1) (p' := 2) (o := o) (by omega) (by omega) (by omega) (by omega) (by omega) (by omega)
  have fk : ¬ (K (40 * r + i) = 2 ∨ K (40 * r + i) = 3 ∨ K (40 * r + i) = 4 ∨ K (40 * r + i) = 5 ∨ K (40 * r + i) = 6) := by rw [hk]; decide
  refine g_part P E W h12 hq (o := o) (p' := 2) (y' := o + 1) (q' := q) (by omega) (fun z => by omega) (fun z => absurd (hk.symm.trans z.1) (by decide)) (by omega) (by omega) (Or.inr (Or.inl ⟨hk, rfl, Or.inr (Or.inr ⟨rfl, by omega⟩)⟩)) (by rw [hk]; rcases ho with rfl | rfl <;> rfl) (fr_b_k fk) (fr_b_k fk) hq (by omega) ?_ ?_
  · intro ET EP KE KN KV post sT sP h
    exact xn_if b2 (by omega) sT sP hk (xi_part P hr hi hk (by rw [← eo]; exact h _ _ _ pk_us (fun q hq => pk_un (by omega)) (fun _ _ => rfl)))
  · intro hd tg kd wo TK HT PH TG HW KS WR VL BG post yT yP e1 e2 _ h
    rw [if_pos ⟨rfl, by omega, hcs⟩] at e1
    subst e1
    have e3 := e2 rfl (by omega) hcs
    exact yw_s (by omega) (by omega) yT ((E r hr i hi).1.trans hk) yP (by decide) (by decide) (by decide) (yt_if P hr hi (by omega) (by omega) yT (by rw [e3]; exact eo) (by omega) h)
/-- SEQ: its second statement -/
theorem g_seq1 (P : pg_T K V Z U B LN) (E : pg_E K V KY VY LN) (W : st_wf K V U LN ((r, i, 1, 1, 0, a, e0, n0, t0) :: st)) (h12 : st_w K ((r, i, 1, 1, 0, a, e0, n0, t0) :: st) ≤ 12) (hq : q ≤ 300) (hk : K (40 * r + i) = 14) : GD f_expectedCount f_draftLength f_latestPlace f_place f_result f_thrown K V Z HB EX KY U LY VY B OP LN ((r, i, 1, 1, 0, a, e0, n0, t0) :: st) 0 n v t s q va ou := by
  obtain ⟨b1, b2, b3, b4, b5, b6, b7, hr, hi⟩ := wf_bd P W h12
  obtain ⟨hok, _, _⟩ := pg_tok P hr hi
  have hn : tk_np (K (40 * r + i)) (V (40 * r + i)) = 2 := by rw [hk]; rfl
  have h1 : fr_ix (K (40 * r + i)) (V (40 * r + i)) 1 = 1 := by rw [hk]; rfl
  have h2 : fr_ix (K (40 * r + i)) (V (40 * r + i)) 2 = 2 := by rw [hk]; rfl
  have hcs : fr_cs (K (40 * r + i)) 1 = 1 := by rw [hk]; rfl
  have pl : tk_plain (K (40 * r + i)) := by rw [hk]; exact ⟨by decide, by decide, by decide, by decide⟩
  have mm := ph_part P hr hi (p := 1) (p' := 2) (o := 1) (by omega) (by omega) (by omega) (by omega) (by omega) (by omega)
  have fk : ¬ (K (40 * r + i) = 2 ∨ K (40 * r + i) = 3 ∨ K (40 * r + i) = 4 ∨ K (40 * r + i) = 5 ∨ K (40 * r + i) = 6) := by rw [hk]; decide
  refine g_part P E W h12 hq (o := 1) (p' := 2) (y' := 2) (q' := q) (by omega) (fun z => by omega) (fun z => pl.1 z.1) (by omega) (by omega) (Or.inr (Or.inr (Or.inr ⟨pl.2.2.2, pl.2.1, pl.2.2.1, pl.1, rfl, rfl, by omega, by omega⟩))) (by rw [hk]; rfl) (fr_b_k fk) (fr_b_k fk) hq (by omega) ?_ ?_
  · intro ET EP KE KN KV post sT sP h
    exact xn_plain b2 (by omega) sT sP hok pl (xp_push P hr hi b2 sT (by omega) (h _ _ _ pk_us (fun q hq => pk_un (by omega)) (fun q hq => pk_un (by omega))))
  · intro hd tg kd wo TK HT PH TG HW KS WR VL BG post yT yP e1 e2 _ h
    rw [if_neg (fun z => by omega)] at e1
    subst e1
    exact yw_s (by omega) (by omega) yT ((E r hr i hi).1.trans hk) yP (by decide) (by decide) (by decide) (yt_seq P hr hi (by omega) (by omega) yT (by omega) h)
/-- WHILE: its statement -/
theorem g_while1 (P : pg_T K V Z U B LN) (E : pg_E K V KY VY LN) (W : st_wf K V U LN ((r, i, 1, 1, 0, a, e0, n0, t0) :: st)) (h12 : st_w K ((r, i, 1, 1, 0, a, e0, n0, t0) :: st) ≤ 12) (hq : q ≤ 300) (hk : K (40 * r + i) = 13) (hv : ¬ v = 0) : GD f_expectedCount f_draftLength f_latestPlace f_place f_result f_thrown K V Z HB EX KY U LY VY B OP LN ((r, i, 1, 1, 0, a, e0, n0, t0) :: st) 0 n v t s q va ou := by
  obtain ⟨b1, b2, b3, b4, b5, b6, b7, hr, hi⟩ := wf_bd P W h12
  have hn : tk_np (K (40 * r + i)) (V (40 * r + i)) = 2 := by rw [hk]; rfl
  have h1 : fr_ix (K (40 * r + i)) (V (40 * r + i)) 1 = 1 := by rw [hk]; rfl
  have h2 : fr_ix (K (40 * r + i)) (V (40 * r + i)) 2 = 2 := by rw [hk]; rfl
  have hcs : fr_cs (K (40 * r + i)) 1 = 0 := by rw [hk]; rfl
  have mm := ph_part P hr hi (p := 1) (p' := 2) (o := 1) (by omega) (by omega) (by omega) (by omega) (by omega) (by omega)
  have fk : ¬ (K (40 * r + i) = 2 ∨ K (40 * r + i) = 3 ∨ K (40 * r + i) = 4 ∨ K (40 * r + i) = 5 ∨ K (40 * r + i) = 6) := by rw [hk]; decide
  refine g_part P E W h12 hq (o := 1) (p' := 2) (y' := 2) (q' := q) (by omega) (fun z => by omega) (fun z => absurd (hk.symm.trans z.1) (by decide)) (by omega) (by omega) (Or.inr (Or.inr (Or.inl ⟨Or.inl hk, rfl, by omega, rfl⟩))) (by rw [hk]; rfl) (fr_b_k fk) (fr_b_k fk) hq (by omega) ?_ ?_
  · intro ET EP KE KN KV post sT sP h
    exact xn_while b2 (by omega) sT sP hk (xw_1go P hr hi hk b2 sT hv (h _ _ _ pk_us (fun q hq => pk_un (by omega)) (fun _ _ => rfl)))
  · intro hd tg kd wo TK HT PH TG HW KS WR VL BG post yT yP e1 e2 _ h
    rw [if_pos ⟨rfl, by omega, hcs⟩] at e1
    subst e1
    have e3 := e2 rfl (by omega) hcs
    exact yw_w (by omega) (by omega) yT ((E r hr i hi).1.trans hk) yP (yq_1g P hr hi (by omega) (by omega) yT (by omega) (by rw [e3]; exact hv) h)
/-- TRY: its statement -/
theorem g_try0 (P : pg_T K V Z U B LN) (E : pg_E K V KY VY LN) (W : st_wf K V U LN ((r, i, 0, 0, 0, a, e0, n0, t0) :: st)) (h12 : st_w K ((r, i, 0, 0, 0, a, e0, n0, t0) :: st) ≤ 12) (hq : q ≤ 300) (hk : K (40 * r + i) = 17) : GD f_expectedCount f_draftLength f_latestPlace f_place f_result f_thrown K V Z HB EX KY U LY VY B OP LN ((r, i, 0, 0, 0, a, e0, n0, t0) :: st) 0 n v t s q va ou := by
  obtain ⟨b1, b2, b3, b4, b5, b6, b7, hr, hi⟩ := wf_bd P W h12
  have hn : 1 ≤ tk_np (K (40 * r + i)) (V (40 * r + i)) := by rw [hk]; unfold tk_np; rw [if_pos rfl]; omega
  have h1 : fr_ix (K (40 * r + i)) (V (40 * r + i)) 1 = 1 := by rw [hk]; rfl
  have mm := ph_part P hr hi (p := 0) (p' := 1) (o := 0) (by omega) (by rw [fr_ix0]; exact Nat.le_refl _) (by omega) (by omega) (by omega) (by omega)
  refine g_part P E W h12 hq (o := 0) (p' := 1) (y' := 1) (q' := q) (by omega) (fun z => by omega) (fun z => by omega) (by omega) (by omega) (Or.inl ⟨hk, Or.inr (Or.inl ⟨rfl, rfl, rfl⟩)⟩) (by rw [hk]; rfl) (fr_b_n (by omega)) (fr_b_n (by omega)) hq (by omega) ?_ ?_
  · intro ET EP KE KN KV post sT sP h
    exact xn_try b2 (by omega) sT sP hk (xt_0 b2 sT (h _ _ _ pk_us (fun q hq => pk_un (by omega)) (fun _ _ => rfl)))
  · intro hd tg kd wo TK HT PH TG HW KS WR VL BG post yT yP e1 _ _ h
    rw [if_neg (fun z => by omega)] at e1
    subst e1
    exact yw_t (by omega) (by omega) yT ((E r hr i hi).1.trans hk) yP (yz_0 P E hr hi (by omega) (by omega) yT (by omega) h)
/-- WHILE: a step, and its condition -/
theorem g_wstep (P : pg_T K V Z U B LN) (E : pg_E K V KY VY LN) (W : st_wf K V U LN ((r, i, p, y, 0, a, e0, n0, t0) :: st)) (h12 : st_w K ((r, i, p, y, 0, a, e0, n0, t0) :: st) ≤ 12) (hq : q ≤ 300) (hk : K (40 * r + i) = 13) (hy : y = p) (hp : p = 0 ∧ e = 0 ∨ p = 2 ∧ (e = 0 ∨ (e = 2 ∧ n = V (40 * r + i) ∧ t = i))) (hq3 : q < 300) : GD f_expectedCount f_draftLength f_latestPlace f_place f_result f_thrown K V Z HB EX KY U LY VY B OP LN ((r, i, p, y, 0, a, e0, n0, t0) :: st) e n v t s q va ou := by
  obtain ⟨b1, b2, b3, b4, b5, b6, b7, hr, hi⟩ := wf_bd P W h12
  subst hy
  have hn : tk_np (K (40 * r + i)) (V (40 * r + i)) = 2 := by rw [hk]; rfl
  have mm := ph_again P hr hi hk 0
  have n8 : ∀ x, ¬ (K (40 * r + i) = 8 ∧ x = 2) := fun x z => absurd (hk.symm.trans z.1) (by decide)
  have fk : ¬ (K (40 * r + i) = 2 ∨ K (40 * r + i) = 3 ∨ K (40 * r + i) = 4 ∨ K (40 * r + i) = 5 ∨ K (40 * r + i) = 6) := by rw [hk]; decide
  have fp := ph_F_pos (K := K) (V := V) (Z := Z) (r := r) (i := i) (p := y) (by omega)
  have hcs : y = 2 → fr_cs (K (40 * r + i)) y = 1 := by rintro rfl; rw [hk]; rfl
  refine g_part P E W h12 hq (o := 0) (p' := 1) (y' := 1) (q' := q + 1) (by omega) (n8 _) (n8 _) (by omega) (by omega) (Or.inr (Or.inr (Or.inl ⟨Or.inl hk, rfl, by omega, rfl⟩))) (by rw [hk]; rfl) (fr_b_k fk) (fr_b_k fk) (by omega) (by omega) ?_ ?_
  · intro ET EP KE KN KV post sT sP h
    have hj : 40 * r + i < 200 := by omega
    rcases hp with ⟨rfl, rfl⟩ | ⟨rfl, hp⟩
    · exact xn_while b2 hj sT sP hk (xw_0 b2 hj sT (xw_step b2 hq3 (h _ _ _ pk_us (fun q hq => by rw [pk_un (by omega), pk_un (by omega)]) (fun _ _ => rfl))))
    · exact xn_while b2 hj sT sP hk (xw_2go b2 hj sT (hp.imp id (fun z => ⟨z.1, z.2.1⟩)) (xw_step b2 hq3 (h _ _ _ pk_us (fun q hq => by rw [pk_un (by omega), pk_un (by omega)]) (fun _ _ => rfl))))
  · intro hd tg kd wo TK HT PH TG HW KS WR VL BG post yT yP e1 e2 e3 h
    have nz : ¬ (e = 0 ∧ 1 ≤ y ∧ fr_cs (K (40 * r + i)) y = 0) := by
      rintro ⟨_, z1, z2⟩
      have : y = 2 := by omega
      have := hcs this
      omega
    rw [if_neg nz] at e1
    subst e1
    have g := yq_step (post := post) (f_ended := e) P hr hi hq3 (T := st_y st) (by omega) (hh := st_h K st) (by omega) yT (by omega) h
    rcases hp with ⟨rfl, rfl⟩ | ⟨rfl, rfl | ⟨rfl, _, ti⟩⟩
    · exact yw_w (by omega) (by omega) yT ((E r hr i hi).1.trans hk) yP (yq_0 g)
    · exact yw_w (by omega) (by omega) yT ((E r hr i hi).1.trans hk) yP (yq_2n g)
    · have e4 := e3 (Or.inr rfl)
      rw [ti] at e4
      subst e4
      exact yw_w (by omega) (by omega) yT ((E r hr i hi).1.trans hk) yP (yq_2c g)
end
