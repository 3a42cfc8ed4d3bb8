/-- what holds at every head of the loop -/
def wf_A (K V U : Nat → Int32) (LN : Nat → Nat) (st : List Fr) (e n : Int32) (t q : Nat) : Prop := st_wf K V U LN st ∧ st_top K V U st e n t ∧ st_w K st ≤ 12 ∧ q ≤ 300
/-- one turn of X, one or two of Y, and less is left to do -/
def GD (f_expectedCount f_draftLength f_latestPlace f_place f_result f_thrown : Int32) (K V Z HB EX KY U LY VY B OP : Nat → Int32) (LN : Nat → Nat) (st : List Fr) (e n v : Int32) (t s q : Nat) (va ou : Nat → Int32) : Prop :=
  ∃ (st' : List Fr) (e' n' v' : Int32) (t' s' q' : Nat) (va' ou' : Nat → Int32), wf_A K V U LN st' e' n' t' q' ∧ ph_S K V Z st' + 201 * (300 - q') < ph_S K V Z st + 201 * (300 - q) ∧ s' ≤ s + 1 ∧
  (∀ (post : Int32 → SX → Prop) (m turn : Nat), turn < 1000000 → XA f_expectedCount f_draftLength f_latestPlace K V Z HB EX post m (turn + 1) st' e' n' v' s' q' va' ou' → XA f_expectedCount f_draftLength f_latestPlace K V Z HB EX post (m + 1) turn st e n v s q va ou) ∧
  (∃ j, ∀ (post : Int32 → SY → Prop) (m : Nat), YA f_place f_result f_thrown K Z KY U LY VY B OP post m st' e' n' v' t' s' q' va' ou' → YA f_place f_result f_thrown K Z KY U LY VY B OP post (m + j) st e n v t s q va ou)
/-- the steps are used up -/
def OV (f_expectedCount f_draftLength f_latestPlace f_place f_result f_thrown : Int32) (K V Z HB EX KY U LY VY B OP : Nat → Int32) (LN : Nat → Nat) (st : List Fr) (e n v : Int32) (t s q : Nat) (va ou : Nat → Int32) : Prop :=
  q = 300 ∧ (∀ (post : Int32 → SX → Prop) (turn : Nat), turn < 1000000 → XF f_expectedCount f_draftLength f_latestPlace K V Z HB EX post 4 0 (-1) s q va ou → XA f_expectedCount f_draftLength f_latestPlace K V Z HB EX post 2 turn st e n v s q va ou) ∧
  (∀ (post : Int32 → SY → Prop), YF f_place f_result f_thrown K Z KY U LY VY B OP post 4 0 (-1) s q va ou → YA f_place f_result f_thrown K Z KY U LY VY B OP post 2 st e n v t s q va ou)
section
variable {f_expectedCount f_draftLength f_latestPlace f_place f_result f_thrown : Int32} {K V Z HB EX KY U LY VY B OP va ou : Nat → Int32} {LN : Nat → Nat} {r i p y c : Nat} {a e0 n0 e n v : Int32} {t0 t s q : Nat} {st : List Fr}
theorem wf_bd (P : pg_T K V Z U B LN) (W : st_wf K V U LN ((r, i, p, y, c, a, e0, n0, t0) :: st)) (h12 : st_w K ((r, i, p, y, c, a, e0, n0, t0) :: st) ≤ 12) : st_y st < 480 ∧ st.length < 480 ∧ st_h K st < 480 ∧ 40 * r + i < 160 ∧ i < 40 ∧ st_w K st ≤ 12 ∧ 1 ≤ st_w K st ∧ r < 4 ∧ i < LN r := by
  obtain ⟨w1, w2, w3, w4, w5, w6, w7, w8, w9⟩ := W
  have hT := P r w2 (by omega)
  have hL := hT.2.1
  have h1 := st_w_pos K st
  have hw : st_w K st ≤ st_w K ((r, i, p, y, c, a, e0, n0, t0) :: st) := by show _ ≤ st_w K st + _; omega
  have a1 := st_len_y st
  have a2 := st_h_y K st
  refine ⟨by omega, by omega, by omega, by omega, by omega, by omega, h1, w2, w3⟩
theorem st_top_0 {j : Nat} : st_top K V U ((r, j, 0, 0, 0, 0, 0, 0, 0) :: st) 0 n t := ⟨⟨Or.inl rfl, fun z => absurd z (by decide), fun z => absurd z (by decide)⟩, fun _ => rfl, fun z => by omega, fun _ z => by omega⟩
theorem st_w_n (h : ¬ (K (40 * r + i) = 8 ∧ p = 2)) : st_w K ((r, i, p, y, c, a, e0, n0, t0) :: st) = st_w K st := by
  show _ + _ = _
  rw [if_neg h]
  rfl
theorem fr_b_n {k : Int32} {p : Nat} (h : p ≠ 2) : fr_b k p = 0 := if_neg (fun z => h z.2)
theorem fr_b_k {k : Int32} {p : Nat} (h : ¬ (k = 2 ∨ k = 3 ∨ k = 4 ∨ k = 5 ∨ k = 6)) : fr_b k p = 0 := if_neg (fun z => h z.1)
theorem fr_b_2 {k : Int32} (h : k = 2 ∨ k = 3 ∨ k = 4 ∨ k = 5 ∨ k = 6) : fr_b k 2 = 1 := if_pos ⟨h, rfl⟩
theorem st_h_n (h : fr_b (K (40 * r + i)) p = 0) : st_h K ((r, i, p, y, c, a, e0, n0, t0) :: st) = st_h K st := by
  show st_h K st + _ = _
  rw [h]
  rfl
/-- an expression's part begins -/
theorem g_xpart (P : pg_T K V Z U B LN) (E : pg_E K V KY VY LN) (W : st_wf K V U LN ((r, i, p, y, c, a, e0, n0, t0) :: st)) (h12 : st_w K ((r, i, p, y, c, a, e0, n0, t0) :: st) ≤ 12) (hq : q ≤ 300) (hs : tk_so (K (40 * r + i)) = 0) (h8 : K (40 * r + i) ≠ 8) (hp : p < tk_np (K (40 * r + i)) (V (40 * r + i))) : GD f_expectedCount f_draftLength f_latestPlace f_place f_result f_thrown K V Z HB EX KY U LY VY B OP LN ((r, i, p, y, c, a, e0, n0, t0) :: st) 0 n v t s q va ou := by
  obtain ⟨b1, b2, b3, b4, b5, b6, b7, hr, hi⟩ := wf_bd P W h12
  obtain ⟨hk, _, _⟩ := pg_tok P hr hi
  -- the kinds: 2 to 6 with two parts, 7 with one
  have hkk : ((K (40 * r + i) = 2 ∨ K (40 * r + i) = 3 ∨ K (40 * r + i) = 4 ∨ K (40 * r + i) = 5 ∨ K (40 * r + i) = 6) ∧ tk_np (K (40 * r + i)) (V (40 * r + i)) = 2) ∨ (K (40 * r + i) = 7 ∧ tk_np (K (40 * r + i)) (V (40 * r + i)) = 1) := by
    have h := tk_kinds hk
    generalize K (40 * r + i) = k at h hs h8 hp ⊢
    rcases h with rfl | rfl | rfl | rfl | rfl | rfl | rfl | rfl | rfl | rfl | rfl | rfl | rfl | rfl | rfl | rfl | rfl | rfl | rfl | rfl | rfl
    all_goals first
      | exact absurd hs (by decide)
      | exact absurd rfl h8
      | exact absurd hp (Nat.not_lt_zero _)
      | exact Or.inl ⟨by decide, rfl⟩
      | exact Or.inr ⟨rfl, rfl⟩
  have hpl : tk_plain (K (40 * r + i)) := by
    rcases hkk with ⟨h | h | h | h | h, _⟩ | ⟨h, _⟩ <;> rw [h] <;> exact ⟨by decide, by decide, by decide, by decide⟩
  obtain ⟨hp1, hp2, hp3, hp4⟩ := hpl
  have hp2' : p = 0 ∨ (p = 1 ∧ (K (40 * r + i) = 2 ∨ K (40 * r + i) = 3 ∨ K (40 * r + i) = 4 ∨ K (40 * r + i) = 5 ∨ K (40 * r + i) = 6)) := by
    rcases hkk with ⟨h, h'⟩ | ⟨h, h'⟩
    · have : p = 0 ∨ p = 1 := by omega
      exact this.imp id (fun z => ⟨z, h⟩)
    · exact Or.inl (by omega)
  have hc : c = 0 ∧ y = p := by
    rcases W.2.2.2.2.1 with ⟨h, _⟩ | ⟨h, _⟩ | ⟨h | h, _⟩ | ⟨_, _, _, _, h, h', _⟩
    · exact (hp4 h).elim
    · exact (hp2 h).elim
    · exact (hp3 h).elim
    · exact (hp1 h).elim
    · exact ⟨h, h'⟩
  obtain ⟨rfl, rfl⟩ := hc
  have hcs : fr_cs (K (40 * r + i)) y = 0 := by
    rcases hkk with ⟨h | h | h | h | h, _⟩ | ⟨h, _⟩ <;> rw [h] <;> rfl
  have hcs' : fr_cs (K (40 * r + i)) (y + 1) = 0 := by
    rcases hkk with ⟨h | h | h | h | h, _⟩ | ⟨h, _⟩ <;> rw [h] <;> rfl
  have hwt : tk_wt (K (40 * r + i)) (V (40 * r + i)) y = 0 := by
    rcases hkk with ⟨h | h | h | h | h, _⟩ | ⟨h, _⟩ <;> rw [h] <;> rfl
  have hix : ∀ x, fr_ix (K (40 * r + i)) (V (40 * r + i)) x = x := by
    intro x
    rcases hkk with ⟨h | h | h | h | h, _⟩ | ⟨h, _⟩ <;> rw [h] <;> rfl
  have hn2 : tk_np (K (40 * r + i)) (V (40 * r + i)) ≤ 2 := by rcases hkk with ⟨_, h⟩ | ⟨_, h⟩ <;> omega
  have nc : ∀ x, ¬ (K (40 * r + i) = 8 ∧ x = 2) := fun x z => h8 z.1
  obtain ⟨wf, ww⟩ := wf_part P W (a' := v) (e' := e0) (n' := n0) (t' := t0) (y' := y + 1) hp (nc _) (by omega) (Or.inr (Or.inr (Or.inr ⟨hp4, hp2, hp3, hp1, rfl, rfl, by omega, by omega⟩))) (hwt.trans hcs'.symm) (fun z => by omega)
  obtain ⟨d1, d2, d3, d4, d5, d6, d7, d8, d9⟩ := wf_bd P wf (by rw [ww]; exact b6)
  have mm := ph_part P hr hi (p := y) (p' := y + 1) (o := y) hp (by rw [hix]; exact Nat.le_refl _) (by rw [hix]; exact Nat.le_refl _) (by rw [hix]; omega) (by omega) (by omega)
  refine ⟨(r, tr_ca (ro Z r) i y, 0, 0, 0, 0, 0, 0, 0) :: (r, i, y + 1, y + 1, 0, v, e0, n0, t0) :: st, 0, n, v, t, s, q, va, ou, ⟨wf, st_top_0, by rw [ww]; exact b6, hq⟩, ?_, by omega, ?_, 1, ?_⟩
  · show ph_S K V Z st + ph_F K V Z r i (y + 1) + ph_F K V Z r (tr_ca (ro Z r) i y) 0 + _ < ph_S K V Z st + ph_F K V Z r i y + _
    omega
  · intro post m turn ht h ET EP KE KN KV hS; obtain ⟨s0, sT, sP, s3, sb⟩ := hS
    rw [st_w_n (nc _)]
    have e2 : st_w K ((r, i, y + 1, y + 1, 0, v, e0, n0, t0) :: st) = st_w K st := st_w_n (nc _)
    rw [← e2]
    refine xs_enter ht (by omega) (xn_plain b2 (by omega) sT sP hk ⟨hp1, hp2, hp3, hp4⟩ (xp_push P hr hi b2 sT hp ?_))
    exact xk_push (st := (r, i, y + 1, y + 1, 0, v, e0, n0, t0) :: st) d2 (by omega) ⟨sx_keep st (fun _ _ => rfl) (fun q hq => pk_un (by omega)) (fun _ _ => rfl) (fun _ _ => rfl) (fun q hq => pk_un (by omega)) s0, sT, pk_us, fun z => by omega, fun _ => pk_us⟩ h
  · intro post m h hd tg kd wo TK HT PH TG HW KS WR VL BG hS hT; obtain ⟨y0, yT, yH, yP, yC, yV, y3, yB⟩ := hS
    have h9 : ¬ 9 ≤ K (40 * r + i) := by rcases hkk with ⟨h | h | h | h | h, _⟩ | ⟨h, _⟩ <;> rw [h] <;> decide
    have hv1 : fr_b (K (40 * r + i)) (y + 1) = 1 → VL (st_h K st) = v := by
      intro z
      rcases hp2' with rfl | ⟨rfl, hz⟩
      · rw [fr_b_n (by omega)] at z; omega
      · have := hT.2.1 rfl (by omega) hcs
        rw [st_h_n (fr_b_n (by omega))] at this
        exact this
    have hhd : hd = nI (st_h K ((r, i, y + 1, y + 1, 0, v, e0, n0, t0) :: st)) := by
      rw [hT.1]
      refine congrArg nI ?_
      show st_h K st + fr_b _ _ + _ = st_h K st + fr_b _ _
      rcases hp2' with rfl | ⟨rfl, hz⟩
      · rw [fr_b_n (by omega), fr_b_n (by omega), if_neg (fun z => by omega)]
      · rw [fr_b_n (by omega), fr_b_2 hz, if_pos ⟨rfl, by omega, hcs⟩]
    subst hhd
    rw [st_w_n (nc _)]
    have e2 : st_w K ((r, i, y + 1, y + 1, 0, v, e0, n0, t0) :: st) = st_w K st := st_w_n (nc _)
    rw [← e2]
    refine ys_enter (T := st_y st) (by omega) (yw_x (by omega) (by omega) yT (E r hr i hi).1 yP h9 (ye_in hk hs (fun z => (h8 z).elim) (by omega) (ye_part P hr hi (by omega) (by omega) yT hp ?_)))
    exact yk_push (st := (r, i, y + 1, y + 1, 0, v, e0, n0, t0) :: st) ⟨sy_keep st (fun _ _ => rfl) (fun _ _ => rfl) (fun q hq => pk_un (by omega)) (fun _ _ => rfl) (fun _ _ => rfl) (fun _ _ => rfl) (fun _ _ => rfl) (fun _ _ => rfl) (fun _ _ => rfl) y0, yT, yH, pk_us, fun z => (z rfl).elim, hv1, fun z => by omega, fun z => (h8 z).elim⟩ h
end
