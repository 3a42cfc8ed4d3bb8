/-- Y's entries stand for the frames -/
def sy_S (K Z TK HT PH TG HW KS WR VL BG : Nat → Int32) : List Fr → Prop
  | [] => True
  | (r, i, p, y, c, a, e, n, t) :: st => sy_S K Z TK HT PH TG HW KS WR VL BG st ∧ TK (st_y st) = nI (40 * r + i) ∧ HT (st_y st) = nI (st_h K st) ∧ PH (st_y st) = nI y ∧ (c ≠ 0 → TK (st_y st + 1) = nI (40 * r + tr_ca (ro Z r) i c) ∧ HT (st_y st + 1) = nI (st_h K st) ∧ PH (st_y st + 1) = 1) ∧ (fr_b (K (40 * r + i)) p = 1 → VL (st_h K st) = a) ∧ (p = 3 → HW (st_y st) = e ∧ ((e = 1 ∨ e = 2) → TG (st_y st) = nI (40 * r + t)) ∧ ((e = 3 ∨ e = 4) → WR (st_y st) = a) ∧ (e = 4 → KS (st_y st) = n)) ∧ (K (40 * r + i) = 8 → p = 2 → BG (st_y st) = 1)
theorem sy_keep {K Z TK HT PH TG HW KS WR VL BG TK' HT' PH' TG' HW' KS' WR' VL' BG' : Nat → Int32} : ∀ st : List Fr, (∀ q, q < st_y st → TK' q = TK q) → (∀ q, q < st_y st → HT' q = HT q) → (∀ q, q < st_y st → PH' q = PH q) → (∀ q, q < st_y st → TG' q = TG q) → (∀ q, q < st_y st → HW' q = HW q) → (∀ q, q < st_y st → KS' q = KS q) → (∀ q, q < st_y st → WR' q = WR q) → (∀ q, q < st_h K st → VL' q = VL q) → (∀ q, q < st_y st → BG' q = BG q) → sy_S K Z TK HT PH TG HW KS WR VL BG st → sy_S K Z TK' HT' PH' TG' HW' KS' WR' VL' BG' st := by
  intro st
  induction st with
  | nil => intro _ _ _ _ _ _ _ _ _ _; trivial
  | cons f st ih =>
    obtain ⟨r, i, p, y, c, a, e, n, t⟩ := f
    intro h1 h2 h3 h4 h5 h6 h7 h8 h9 h
    obtain ⟨a0, a1, a2, a3, a4, a5, a6, a7⟩ := h
    have ey : st_y ((r, i, p, y, c, a, e, n, t) :: st) = st_y st + (if c = 0 then 1 else 2) := rfl
    have eh : st_h K ((r, i, p, y, c, a, e, n, t) :: st) = st_h K st + fr_b (K (40 * r + i)) p := rfl
    rw [ey] at h1 h2 h3 h4 h5 h6 h7 h9
    rw [eh] at h8
    have l1 : st_y st < st_y st + (if c = 0 then 1 else 2) := by split <;> omega
    refine ⟨ih (fun q hq => h1 q (by omega)) (fun q hq => h2 q (by omega)) (fun q hq => h3 q (by omega)) (fun q hq => h4 q (by omega)) (fun q hq => h5 q (by omega)) (fun q hq => h6 q (by omega)) (fun q hq => h7 q (by omega)) (fun q hq => h8 q (by omega)) (fun q hq => h9 q (by omega)) a0, (h1 _ l1).trans a1, (h2 _ l1).trans a2, (h3 _ l1).trans a3, fun z => ?_, fun z => (h8 _ (by omega)).trans (a5 z), fun z => ?_, fun z z2 => (h9 _ l1).trans (a7 z z2)⟩
    · obtain ⟨b1, b2, b3⟩ := a4 z
      have l2 : st_y st + 1 < st_y st + (if c = 0 then 1 else 2) := by rw [if_neg z]; omega
      exact ⟨(h1 _ l2).trans b1, (h2 _ l2).trans b2, (h3 _ l2).trans b3⟩
    · obtain ⟨b1, b2, b3, b4⟩ := a6 z
      exact ⟨(h5 _ l1).trans b1, fun z => (h4 _ l1).trans (b2 z), fun z => (h7 _ l1).trans (b3 z), fun z => (h6 _ l1).trans (b4 z)⟩
/-- how Y tells the ending that the topmost frame has to deal with -/
def sy_top (K VL : Nat → Int32) : List Fr → Int32 → Int32 → Int32 → Nat → Int32 → Int32 → Int32 → Int32 → Prop
  | [], e, n, v, _, _, _, kd, wo => ((e = 3 ∨ e = 4) → wo = v) ∧ (e = 4 → kd = n)
  | (r, i, p, y, c, a, e0, n0, t0) :: st, e, n, v, t, hd, tg, kd, wo => hd = nI (st_h K ((r, i, p, y, c, a, e0, n0, t0) :: st) + (if e = 0 ∧ 1 ≤ p ∧ fr_cs (K (40 * r + i)) p = 0 then 1 else 0)) ∧ (e = 0 → 1 ≤ p → fr_cs (K (40 * r + i)) p = 0 → VL (st_h K ((r, i, p, y, c, a, e0, n0, t0) :: st)) = v) ∧ ((e = 1 ∨ e = 2) → tg = nI (40 * r + t)) ∧ ((e = 3 ∨ e = 4) → wo = v) ∧ (e = 4 → kd = n)
/-- Y's loop from any state that stands for the frames -/
def YA (f_place f_result f_thrown : Int32) (K Z KY U LY VY B OP : Nat → Int32) (post : Int32 → SY → Prop) (m : Nat) (st : List Fr) (e n v : Int32) (t s q : Nat) (va ou : Nat → Int32) : Prop :=
  ∀ (hd tg kd wo : Int32) (TK HT PH TG HW KS WR VL BG : Nat → Int32), sy_S K Z TK HT PH TG HW KS WR VL BG st → sy_top K VL st e n v t hd tg kd wo → wY_run_51 post m f_place (nI (st_y st)) hd (nI (st_w K st)) e tg kd wo (nI q) (nI s) f_result f_thrown 0 KY U LY VY B OP TK HT TG PH HW KS WR VL va BG ou
def yc_K (post : Int32 → SY → Prop) (m : Nat) : SY → Prop := fun u => match u with
  | (f_place, f_top, f_held, f_depth, f_ended, f_endTarget, f_endKind, f_endWorth, f_steps, f_says, f_result, f_thrown, f_over, a_kind, a_up, a_length, a_value, a_below, a_open, a_token, a_height, a_target, a_phase, a_how, a_kinds, a_worth, a_values, a_variables, a_begun, a_output) => wY_run_51 post m f_place f_top f_held f_depth f_ended f_endTarget f_endKind f_endWorth f_steps f_says f_result f_thrown f_over a_kind a_up a_length a_value a_below a_open a_token a_height a_target a_phase a_how a_kinds a_worth a_values a_variables a_begun a_output
def YF (f_place f_result f_thrown : Int32) (K Z KY U LY VY B OP : Nat → Int32) (post : Int32 → SY → Prop) (r res th : Int32) (s q : Nat) (va ou : Nat → Int32) : Prop :=
  ∀ (f_top f_depth hd e tg kd wo f_over : Int32) (TK HT PH TG HW KS WR VL BG : Nat → Int32), post r (f_place, f_top, hd, f_depth, e, tg, kd, wo, nI q, nI s, res, th, f_over, KY, U, LY, VY, B, OP, TK, HT, TG, PH, HW, KS, WR, VL, va, BG, ou)
theorem st_h0 {K : Nat → Int32} {r j : Nat} {st : List Fr} : st_h K ((r, j, 0, 0, 0, 0, 0, 0, 0) :: st) = st_h K st := by
  show _ + _ = _
  unfold fr_b
  rw [if_neg (fun z => absurd z.2 (by decide))]
  rfl
section
variable {f_place f_top f_held f_depth f_ended f_endTarget f_endKind f_endWorth f_steps f_says f_result f_thrown f_over : Int32} {a_kind a_up a_length a_value a_below a_open a_token a_height a_target a_phase a_how a_kinds a_worth a_values a_variables a_begun a_output : Nat → Int32} {K Z KY U LY VY B OP TK HT PH TG HW KS WR VL BG va ou : Nat → Int32} {post : Int32 → SY → Prop} {m : Nat} {st : List Fr} {e n v hd tg kd wo : Int32} {t s q : Nat}
theorem ys_enter {T : Nat} (hT : T < 1000) (h : wpY_work (yc_K post m) (f_place, nI (T + 1), f_held, f_depth, f_ended, f_endTarget, f_endKind, f_endWorth, f_steps, f_says, f_result, f_thrown, 0, a_kind, a_up, a_length, a_value, a_below, a_open, a_token, a_height, a_target, a_phase, a_how, a_kinds, a_worth, a_values, a_variables, a_begun, a_output)) : wY_run_51 post (m + 1) f_place (nI (T + 1)) f_held f_depth f_ended f_endTarget f_endKind f_endWorth f_steps f_says f_result f_thrown 0 a_kind a_up a_length a_value a_below a_open a_token a_height a_target a_phase a_how a_kinds a_worth a_values a_variables a_begun a_output :=
  br_f (nI_nle (by omega) (by omega)) (br_t rfl h)
theorem yk_over (h : YF f_place f_result f_thrown K Z KY U LY VY B OP post 4 0 (-1) s q va ou) : yc_K post (m + 1) (f_place, f_top, hd, f_depth, e, tg, kd, wo, nI q, nI s, f_result, f_thrown, 1, KY, U, LY, VY, B, OP, TK, HT, TG, PH, HW, KS, WR, VL, va, BG, ou) := by
  have k : wY_run_72 post f_place f_top hd f_depth e tg kd wo (nI q) (nI s) f_result f_thrown 1 KY U LY VY B OP TK HT TG PH HW KS WR VL va BG ou := br_f (by decide) (br_t rfl (br_f (by decide) (br_f (by decide) (h _ _ _ _ _ _ _ _ _ _ _ _ _ _ _ _ _))))
  exact br_c (fun _ => k) (fun _ => br_f (by decide) k)
theorem ya_nil0 (h : YF f_place f_result f_thrown K Z KY U LY VY B OP post 0 0 (-1) s q va ou) : YA f_place f_result f_thrown K Z KY U LY VY B OP post 1 [] 0 n v t s q va ou := by
  intro hd tg kd wo TK HT PH TG HW KS WR VL BG _ _
  exact br_t (by decide) (br_t rfl (br_f (by decide) (br_t rfl (br_t rfl (br_t rfl (br_t rfl (br_t rfl (h _ _ _ _ _ _ _ _ _ _ _ _ _ _ _ _ _))))))))
theorem ya_nil3 (h : YF f_place f_result f_thrown K Z KY U LY VY B OP post 0 v (-1) s q va ou) : YA f_place f_result f_thrown K Z KY U LY VY B OP post 1 [] 3 n v t s q va ou := by
  intro hd tg kd wo TK HT PH TG HW KS WR VL BG _ hs
  have e1 : wo = v := hs.1 (Or.inl rfl)
  subst e1
  exact br_t (by decide) (br_t rfl (br_f (by decide) (br_t rfl (br_t rfl (br_f (by decide) (br_t rfl (br_t rfl (h _ _ _ _ _ _ _ _ _ _ _ _ _ _ _ _ _))))))))
theorem ya_nil4 (h : YF f_place f_result f_thrown K Z KY U LY VY B OP post 3 v n s q va ou) : YA f_place f_result f_thrown K Z KY U LY VY B OP post 1 [] 4 n v t s q va ou := by
  intro hd tg kd wo TK HT PH TG HW KS WR VL BG _ hs
  have e1 : wo = v := hs.1 (Or.inr rfl)
  have e2 : kd = n := hs.2 rfl
  subst e1 e2
  exact br_t (by decide) (br_t rfl (br_t rfl (br_f (by decide) (br_t rfl (br_f (by decide) (br_t rfl (br_f (by decide) (h _ _ _ _ _ _ _ _ _ _ _ _ _ _ _ _ _))))))))
/-- a part has begun -/
theorem yk_push {r j : Nat} (hS : sy_S K Z TK HT PH TG HW KS WR VL BG st) (h : YA f_place f_result f_thrown K Z KY U LY VY B OP post m ((r, j, 0, 0, 0, 0, 0, 0, 0) :: st) 0 n v t s q va ou) : yc_K post m (f_place, nI (st_y st + 1), nI (st_h K st), nI (st_w K st), 0, tg, kd, wo, nI q, nI s, f_result, f_thrown, 0, KY, U, LY, VY, B, OP, upd TK (st_y st) (nI (40 * r + j)), upd HT (st_y st) (nI (st_h K st)), TG, upd PH (st_y st) 0, HW, KS, WR, VL, va, BG, ou) := by
  have := h (nI (st_h K st)) tg kd wo (upd TK (st_y st) (nI (40 * r + j))) (upd HT (st_y st) (nI (st_h K st))) (upd PH (st_y st) 0) TG HW KS WR VL BG ⟨sy_keep st (fun q hq => pk_un (by omega)) (fun q hq => pk_un (by omega)) (fun q hq => pk_un (by omega)) (fun _ _ => rfl) (fun _ _ => rfl) (fun _ _ => rfl) (fun _ _ => rfl) (fun _ _ => rfl) (fun _ _ => rfl) hS, pk_us, pk_us, pk_us, fun z => (z rfl).elim, fun z => (fr_b0 _ z).elim, fun z => by omega, fun _ z => by omega⟩ ⟨by rw [st_h0, if_neg (fun z => by omega)]; rfl, fun _ z => by omega, fun z => absurd z (by decide), fun z => absurd z (by decide), fun z => absurd z (by decide)⟩
  rw [st_w0] at this
  exact this
/-- the topmost frame has gone -/
theorem yk_pop (hS : sy_S K Z TK HT PH TG HW KS WR VL BG st) (hT : sy_top K VL st e n v t hd tg kd wo) (h : YA f_place f_result f_thrown K Z KY U LY VY B OP post m st e n v t s q va ou) : yc_K post m (f_place, nI (st_y st), hd, nI (st_w K st), e, tg, kd, wo, nI q, nI s, f_result, f_thrown, 0, KY, U, LY, VY, B, OP, TK, HT, TG, PH, HW, KS, WR, VL, va, BG, ou) := h hd tg kd wo TK HT PH TG HW KS WR VL BG hS hT
end
section
variable {K V U VL : Nat → Int32} {LN : Nat → Nat}
theorem sy_pop_s {r i p y c : Nat} {a e0 n0 : Int32} {t0 : Nat} {st : List Fr} (W : st_wf K V U LN ((r, i, p, y, c, a, e0, n0, t0) :: st)) (hs : tk_so (K (40 * r + i)) = 1) {e n v : Int32} {t : Nat} {tg kd wo : Int32} (hT : st_top K V U st e n t) (h12 : (e = 1 ∨ e = 2) → tg = nI (40 * r + t)) (h34 : (e = 3 ∨ e = 4) → wo = v) (h4 : e = 4 → kd = n) : sy_top K VL st e n v t (nI (st_h K st)) tg kd wo := by
  obtain ⟨_, _, _, _, _, _, _, hadj, hroot⟩ := W
  cases st with
  | nil => exact ⟨h34, h4⟩
  | cons f st =>
    obtain ⟨r', i', p', y', c', a', e', n', t'⟩ := f
    have nx : ∀ hcs : fr_cs (K (40 * r' + i')) p' = 1, nI (st_h K ((r', i', p', y', c', a', e', n', t') :: st)) = nI (st_h K ((r', i', p', y', c', a', e', n', t') :: st) + (if e = 0 ∧ 1 ≤ p' ∧ fr_cs (K (40 * r' + i')) p' = 0 then 1 else 0)) := fun hcs => by rw [if_neg (fun z => by omega)]; rfl
    obtain ⟨h1, ⟨a1, a2, a3⟩ | ⟨b1, b2, b3, b4, b5⟩⟩ := hadj
    · have hcs : fr_cs (K (40 * r' + i')) p' = 1 := by rw [a1, a2]; rfl
      refine ⟨nx hcs, fun _ _ z => by omega, fun z => ?_, h34, h4⟩
      rcases hT.2.2.2 a1 a2 with q | q | q <;> rw [q] at z <;> exact absurd z (by decide)
    · have hcs : fr_cs (K (40 * r' + i')) p' = 1 := b4.symm.trans hs
      subst b2
      exact ⟨nx hcs, fun _ _ z => by omega, h12, h34, h4⟩
theorem sy_pop_x {r i p y c : Nat} {a e0 n0 : Int32} {t0 : Nat} {st : List Fr} (W : st_wf K V U LN ((r, i, p, y, c, a, e0, n0, t0) :: st)) (hs : tk_so (K (40 * r + i)) = 0) {n v : Int32} {t : Nat} {hd tg kd wo : Int32} (hv : VL (st_h K st) = v) : sy_top K VL st 0 n v t (nI (st_h K st + 1)) tg kd wo := by
  obtain ⟨_, _, _, _, _, _, _, hadj, hroot⟩ := W
  cases st with
  | nil => exact ⟨fun z => absurd z (by decide), fun z => absurd z (by decide)⟩
  | cons f st =>
    obtain ⟨r', i', p', y', c', a', e', n', t'⟩ := f
    obtain ⟨h1, ⟨a1, a2, a3⟩ | ⟨b1, b2, b3, b4, b5⟩⟩ := hadj
    · have := hroot a3
      omega
    · have hcs : fr_cs (K (40 * r' + i')) p' = 0 := b4.symm.trans hs
      refine ⟨by rw [if_pos ⟨rfl, h1, hcs⟩], fun _ _ _ => hv, fun z => absurd z (by decide), fun z => absurd z (by decide), fun z => absurd z (by decide)⟩
theorem sy_pop_4 {r i p y c : Nat} {a e0 n0 : Int32} {t0 : Nat} {st : List Fr} {n v : Int32} {t : Nat} {tg kd wo : Int32} (hw : wo = v) (hk : kd = n) : sy_top K VL st 4 n v t (nI (st_h K st)) tg kd wo := by
  cases st with
  | nil => exact ⟨fun _ => hw, fun _ => hk⟩
  | cons f st =>
    obtain ⟨r', i', p', y', c', a', e', n', t'⟩ := f
    exact ⟨by rw [if_neg (fun z => absurd z.1 (by decide))]; rfl, fun z => absurd z (by decide), fun z => absurd z (by decide), fun _ => hw, fun _ => hk⟩
end
