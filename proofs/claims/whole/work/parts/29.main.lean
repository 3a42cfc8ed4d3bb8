/-- the bodies on both sides -/
def pg_H (HB LY : Nat → Int32) (LN : Nat → Nat) : Prop := ∀ f, f < 4 → (HB f = 0 ∧ LY f = 0) ∨ (1 ≤ LN f ∧ HB f = 1 ∧ ¬ LY f = 0)
theorem tk_fn01 (v : Int32) : tk_fn v = 0 ∨ tk_fn v = 1 := by
  unfold tk_fn
  split
  · exact Or.inl rfl
  · exact Or.inr rfl
section
variable {f_expectedCount f_draftLength f_latestPlace f_place f_result f_thrown : Int32} {K V Z HB EX KY U LY VY B OP va ou : Nat → Int32} {LN : Nat → Nat} {r i p y c : Nat} {a e0 n0 e n v : Int32} {t0 t s q : Nat} {st : List Fr}
theorem ct_dec (n : Int32) (cn : Nat) (h2 : cn ≤ 2) : (∃ c, 1 ≤ c ∧ c ≤ cn ∧ ct_m V Z r i n c ∧ ∀ b, 1 ≤ b → b < c → ¬ ct_m V Z r i n b) ∨ ∀ b, 1 ≤ b → b ≤ cn → ¬ ct_m V Z r i n b := by
  by_cases h1 : 1 ≤ cn ∧ ct_m V Z r i n 1
  · exact Or.inl ⟨1, Nat.le_refl _, h1.1, h1.2, fun b b1 b2 => by omega⟩
  · by_cases h3 : 2 ≤ cn ∧ ct_m V Z r i n 2
    · refine Or.inl ⟨2, by omega, h3.1, h3.2, fun b b1 b2 z => ?_⟩
      have : b = 1 := by omega
      subst this
      exact h1 ⟨by omega, z⟩
    · refine Or.inr (fun b b1 b2 z => ?_)
      have : b = 1 ∨ b = 2 := by omega
      rcases this with rfl | rfl
      · exact h1 ⟨b2, z⟩
      · exact h3 ⟨b2, z⟩
/-- TRY -/
theorem s_try (P : pg_T K V Z U B LN) (E : pg_E K V KY VY LN) (W : st_wf K V U LN ((r, i, p, y, c, a, e0, n0, t0) :: st)) (h12 : st_w K ((r, i, p, y, c, a, e0, n0, t0) :: st) ≤ 12) (hq : q ≤ 300) (he : en_ok K V U r i e n t) (hp0 : p = 0 → e = 0) (hk : K (40 * r + i) = 17) (hf : (p = 0 ∧ y = 0 ∧ c = 0) ∨ (p = 1 ∧ y = 1 ∧ c = 0) ∨ (p = 2 ∧ y = c + 1 ∧ 1 ≤ c ∧ c ≤ tk_cn (V (40 * r + i))) ∨ (p = 3 ∧ y = 4 ∧ c = 0 ∧ tk_fn (V (40 * r + i)) = 1)) : GD f_expectedCount f_draftLength f_latestPlace f_place f_result f_thrown K V Z HB EX KY U LY VY B OP LN ((r, i, p, y, c, a, e0, n0, t0) :: st) e n v t s q va ou := by
  rcases hf with ⟨rfl, rfl, rfl⟩ | ⟨rfl, rfl, rfl⟩ | ⟨rfl, rfl, c1, c2⟩ | ⟨rfl, rfl, rfl, _⟩
  · have := hp0 rfl
    subst this
    exact g_try0 P E W h12 hq hk
  · by_cases h4 : e = 4
    · subst h4
      rcases ct_dec (V := V) (Z := Z) (r := r) (i := i) n _ (tk_cn_le (V (40 * r + i))) with ⟨c, c1, c2, c3, c4⟩ | hno
      · exact g_hand P E W h12 hq hk c1 c2 c3 c4
      · rcases tk_fn01 (V (40 * r + i)) with hf | hf
        · exact g_t1n P E W h12 hq he hk hf (fun _ => hno)
        · exact g_fin1 P E W h12 hq he hk hf (fun _ => hno)
    · rcases tk_fn01 (V (40 * r + i)) with hf | hf
      · exact g_t1n P E W h12 hq he hk hf (fun z => (h4 z).elim)
      · exact g_fin1 P E W h12 hq he hk hf (fun z => (h4 z).elim)
  · rcases tk_fn01 (V (40 * r + i)) with hf | hf
    · exact g_t2n P E W h12 hq he hk c1 c2 hf
    · exact g_fin2 P E W h12 hq he hk c1 c2 hf
  · exact g_t3 P E W h12 hq he hk
/-- IF -/
theorem s_if (P : pg_T K V Z U B LN) (E : pg_E K V KY VY LN) (W : st_wf K V U LN ((r, i, p, y, 0, a, e0, n0, t0) :: st)) (h12 : st_w K ((r, i, p, y, 0, a, e0, n0, t0) :: st) ≤ 12) (hq : q ≤ 300) (he : en_ok K V U r i e n t) (hp0 : p = 0 → e = 0) (hk : K (40 * r + i) = 12) (hf : (p = 0 ∧ y = 0) ∨ (p = 1 ∧ y = 1) ∨ (p = 2 ∧ (y = 2 ∨ y = 3))) : GD f_expectedCount f_draftLength f_latestPlace f_place f_result f_thrown K V Z HB EX KY U LY VY B OP LN ((r, i, p, y, 0, a, e0, n0, t0) :: st) e n v t s q va ou := by
  have ho : ∀ hp : p = 1 ∨ p = 2, K (40 * r + i) = 10 ∨ K (40 * r + i) = 11 ∨ K (40 * r + i) = 14 ∨ K (40 * r + i) = 16 ∨ K (40 * r + i) = 21 ∨ (K (40 * r + i) = 12 ∧ (p = 1 ∨ p = 2)) := fun hp => Or.inr (Or.inr (Or.inr (Or.inr (Or.inr ⟨hk, hp⟩))))
  by_cases h0 : e = 0
  · subst h0
    rcases hf with ⟨rfl, rfl⟩ | ⟨rfl, rfl⟩ | ⟨rfl, hy⟩
    · exact g_if0 P E W h12 hq hk
    · exact g_if1 P E W h12 hq hk
    · exact g_end P E W h12 hq (Or.inr ⟨hk, hy⟩)
  · rcases hf with ⟨rfl, rfl⟩ | ⟨rfl, rfl⟩ | ⟨rfl, hy⟩
    · exact (h0 (hp0 rfl)).elim
    · exact g_out P E W h12 hq he h0 (ho (Or.inl rfl)) (Or.inl rfl)
    · exact g_out P E W h12 hq he h0 (ho (Or.inr rfl)) (Or.inr hy)
/-- WHILE -/
theorem s_while (P : pg_T K V Z U B LN) (E : pg_E K V KY VY LN) (W : st_wf K V U LN ((r, i, p, p, 0, a, e0, n0, t0) :: st)) (h12 : st_w K ((r, i, p, p, 0, a, e0, n0, t0) :: st) ≤ 12) (hq : q ≤ 300) (he : en_ok K V U r i e n t) (hp0 : p = 0 → e = 0) (hcs : 1 ≤ p → fr_cs (K (40 * r + i)) p = 0 → e = 0 ∨ e = 4) (hk : K (40 * r + i) = 13) (hp : p ≤ 2) : GD f_expectedCount f_draftLength f_latestPlace f_place f_result f_thrown K V Z HB EX KY U LY VY B OP LN ((r, i, p, p, 0, a, e0, n0, t0) :: st) e n v t s q va ou ∨ OV f_expectedCount f_draftLength f_latestPlace f_place f_result f_thrown K V Z HB EX KY U LY VY B OP LN ((r, i, p, p, 0, a, e0, n0, t0) :: st) e n v t s q va ou := by
  have go : (p = 0 ∧ e = 0 ∨ p = 2 ∧ (e = 0 ∨ (e = 2 ∧ n = V (40 * r + i) ∧ t = i))) → GD f_expectedCount f_draftLength f_latestPlace f_place f_result f_thrown K V Z HB EX KY U LY VY B OP LN ((r, i, p, p, 0, a, e0, n0, t0) :: st) e n v t s q va ou ∨ OV f_expectedCount f_draftLength f_latestPlace f_place f_result f_thrown K V Z HB EX KY U LY VY B OP LN ((r, i, p, p, 0, a, e0, n0, t0) :: st) e n v t s q va ou := by
    intro hh
    by_cases h3 : q < 300
    · exact Or.inl (g_wstep P E W h12 hq hk rfl hh h3)
    · have : q = 300 := by omega
      subst this
      exact Or.inr (o_while P E W h12 hk hh)
  have ti : (e = 1 ∨ e = 2) → n = V (40 * r + i) → t = i := by
    intro z hn
    rcases tr_NL_u (he.2.1 z) with ⟨_, h⟩ | ⟨h, _⟩
    · exact h
    · exact (h ⟨hk, hn.symm⟩).elim
  have : p = 0 ∨ p = 1 ∨ p = 2 := by omega
  rcases this with rfl | rfl | rfl
  · exact go (Or.inl ⟨rfl, hp0 rfl⟩)
  · rcases hcs (by omega) (by rw [hk]; rfl) with rfl | rfl
    · by_cases hv : v = 0
      · exact Or.inl (g_w1z P E W h12 hq hk hv)
      · exact Or.inl (g_while1 P E W h12 hq hk hv)
    · exact Or.inl (g_wout P E W h12 hq he (by decide) hk (Or.inl rfl) (fun z => absurd z (by decide)))
  · by_cases h0 : e = 0
    · exact go (Or.inr ⟨rfl, Or.inl h0⟩)
    · by_cases hn : n = V (40 * r + i)
      · by_cases h2 : e = 2
        · exact go (Or.inr ⟨rfl, Or.inr ⟨h2, hn, ti (Or.inr h2) hn⟩⟩)
        · by_cases h1 : e = 1
          · have tt := ti (Or.inl h1) hn
            subst h1
            exact Or.inl (g_w2b P E W h12 hq hk hn tt)
          · exact Or.inl (g_wout P E W h12 hq he h0 hk (Or.inr rfl) (fun z => (z.elim h1 h2).elim))
      · exact Or.inl (g_wout P E W h12 hq he h0 hk (Or.inr rfl) (fun _ => hn))
/-- CALL -/
theorem s_call (P : pg_T K V Z U B LN) (E : pg_E K V KY VY LN) (H : pg_H HB LY LN) (W : st_wf K V U LN ((r, i, p, p, 0, a, e0, n0, t0) :: st)) (h12 : st_w K ((r, i, p, p, 0, a, e0, n0, t0) :: st) ≤ 12) (hq : q ≤ 300) (he : en_ok K V U r i e n t) (hp0 : p = 0 → e = 0) (hcs : 1 ≤ p → fr_cs (K (40 * r + i)) p = 0 → e = 0 ∨ e = 4) (h8 : K (40 * r + i) = 8 → p = 2 → e = 0 ∨ e = 3 ∨ e = 4) (hk : K (40 * r + i) = 8) (hp : p ≤ 2) : GD f_expectedCount f_draftLength f_latestPlace f_place f_result f_thrown K V Z HB EX KY U LY VY B OP LN ((r, i, p, p, 0, a, e0, n0, t0) :: st) e n v t s q va ou ∨ OV f_expectedCount f_draftLength f_latestPlace f_place f_result f_thrown K V Z HB EX KY U LY VY B OP LN ((r, i, p, p, 0, a, e0, n0, t0) :: st) e n v t s q va ou := by
  have : p = 0 ∨ p = 1 ∨ p = 2 := by omega
  rcases this with rfl | rfl | rfl
  · have := hp0 rfl
    subst this
    exact Or.inl (g_call0 P E W h12 hq hk)
  · rcases hcs (by omega) (by rw [hk]; rfl) with rfl | rfl
    · obtain ⟨b1, b2, b3, b4, b5, b6, b7, hr, hi⟩ := wf_bd P W h12
      obtain ⟨f, hf, ef⟩ := tk_fou (pg_tok P hr hi).1 (Or.inl hk)
      rcases H f hf with ⟨x1, x2⟩ | ⟨x1, x2, x3⟩
      · exact Or.inl (g_cnone P E W h12 hq hk hf ef x1 x2)
      · by_cases h3 : q < 300
        · by_cases hw : st_w K st < 12
          · exact Or.inl (g_begin P E W h12 hq hk hf ef x1 x2 x3 h3 hw)
          · exact Or.inl (g_cdeep P E W h12 hq hk hf ef x2 x3 h3 (by omega))
        · have : q = 300 := by omega
          subst this
          exact Or.inr (o_call P E W h12 hk hf ef x2 x3)
    · exact Or.inl (g_x4 P E W h12 hq (by rw [hk]; decide) (by omega) (fun z => by omega) (he.2.2 rfl))
  · exact Or.inl (g_ret P E W h12 hq hk (h8 hk rfl) he.2.2)
/-- the plain tokens -/
theorem s_plain (P : pg_T K V Z U B LN) (E : pg_E K V KY VY LN) (W : st_wf K V U LN ((r, i, p, p, 0, a, e0, n0, t0) :: st)) (h12 : st_w K ((r, i, p, p, 0, a, e0, n0, t0) :: st) ≤ 12) (hq : q ≤ 300) (hss : s < 2000000) (he : en_ok K V U r i e n t) (hp0 : p = 0 → e = 0) (hcs : 1 ≤ p → fr_cs (K (40 * r + i)) p = 0 → e = 0 ∨ e = 4) (hpl : tk_plain (K (40 * r + i))) (h18 : K (40 * r + i) ≠ 18) (hp : p ≤ tk_np (K (40 * r + i)) (V (40 * r + i))) (hp2 : p ≤ 2) : GD f_expectedCount f_draftLength f_latestPlace f_place f_result f_thrown K V Z HB EX KY U LY VY B OP LN ((r, i, p, p, 0, a, e0, n0, t0) :: st) e n v t s q va ou := by
  obtain ⟨b1, b2, b3, b4, b5, b6, b7, hr, hi⟩ := wf_bd P W h12
  have hok := (pg_tok P hr hi).1
  obtain ⟨n8, n12, n13, n17⟩ := hpl
  have hpc : p = 0 ∨ p = 1 ∨ p = 2 := by omega
  have xx : tk_so (K (40 * r + i)) = 0 → fr_cs (K (40 * r + i)) p = 0 → (e = 0 → p = tk_np (K (40 * r + i)) (V (40 * r + i)) → GD f_expectedCount f_draftLength f_latestPlace f_place f_result f_thrown K V Z HB EX KY U LY VY B OP LN ((r, i, p, p, 0, a, e0, n0, t0) :: st) e n v t s q va ou) → GD f_expectedCount f_draftLength f_latestPlace f_place f_result f_thrown K V Z HB EX KY U LY VY B OP LN ((r, i, p, p, 0, a, e0, n0, t0) :: st) e n v t s q va ou := by
    intro hs hc hfin
    by_cases h0 : e = 0
    · by_cases hlt : p < tk_np (K (40 * r + i)) (V (40 * r + i))
      · subst h0
        exact g_xpart P E W h12 hq hs n8 hlt
      · exact hfin h0 (by omega)
    · have h1 : 1 ≤ p := by
        rcases Nat.eq_zero_or_pos p with z | z
        · exact (h0 (hp0 z)).elim
        · exact z
      have h4 := (hcs h1 hc).resolve_left h0
      subst h4
      exact g_x4 P E W h12 hq hs h1 (fun z => n8 z.1) (he.2.2 rfl)
  have yy : (K (40 * r + i) = 10 ∨ K (40 * r + i) = 11 ∨ K (40 * r + i) = 14 ∨ K (40 * r + i) = 16 ∨ K (40 * r + i) = 21) → ((p = 1 ∨ p = 2) → e = 0 → GD f_expectedCount f_draftLength f_latestPlace f_place f_result f_thrown K V Z HB EX KY U LY VY B OP LN ((r, i, p, p, 0, a, e0, n0, t0) :: st) e n v t s q va ou) → GD f_expectedCount f_draftLength f_latestPlace f_place f_result f_thrown K V Z HB EX KY U LY VY B OP LN ((r, i, p, p, 0, a, e0, n0, t0) :: st) e n v t s q va ou := by
    intro hk hgo
    by_cases h0 : e = 0
    · rcases hpc with rfl | h | h
      · subst h0
        exact g_stmt0 P E W h12 hq hk
      · exact hgo (Or.inl h) h0
      · exact hgo (Or.inr h) h0
    · have h1 : p = 1 ∨ p = 2 := by
        rcases hpc with h | h | h
        · exact (h0 (hp0 h)).elim
        · exact Or.inl h
        · exact Or.inr h
      refine g_out P E W h12 hq he h0 ?_ (h1.elim Or.inl (fun z => Or.inr (Or.inl z)))
      rcases hk with h | h | h | h | h
      · exact Or.inl h
      · exact Or.inr (Or.inl h)
      · exact Or.inr (Or.inr (Or.inl h))
      · exact Or.inr (Or.inr (Or.inr (Or.inl h)))
      · exact Or.inr (Or.inr (Or.inr (Or.inr (Or.inl h))))
  have two : (K (40 * r + i) = 2 ∨ K (40 * r + i) = 3 ∨ K (40 * r + i) = 4 ∨ K (40 * r + i) = 5 ∨ K (40 * r + i) = 6) → GD f_expectedCount f_draftLength f_latestPlace f_place f_result f_thrown K V Z HB EX KY U LY VY B OP LN ((r, i, p, p, 0, a, e0, n0, t0) :: st) e n v t s q va ou := by
    intro hk
    refine xx (by rcases hk with h | h | h | h | h <;> rw [h] <;> decide) (by rcases hk with h | h | h | h | h <;> rw [h] <;> rfl) (fun h0 hpn => ?_)
    have : tk_np (K (40 * r + i)) (V (40 * r + i)) = 2 := by rcases hk with h | h | h | h | h <;> rw [h] <;> rfl
    rw [this] at hpn
    subst h0 hpn
    by_cases hz : K (40 * r + i) = 5 ∧ v = 0
    · obtain ⟨h5, rfl⟩ := hz
      exact g_div0 P E W h12 hq h5
    · exact g_two P E W h12 hq hk (fun h5 hv => hz ⟨h5, hv⟩)
  have zero : tk_np (K (40 * r + i)) (V (40 * r + i)) = 0 → p = 0 ∧ e = 0 := fun hn => by
    have : p = 0 := by omega
    exact ⟨this, hp0 this⟩
  rcases tk_kinds hok with h | h | h | h | h | h | h | h | h | h | h | h | h | h | h | h | h | h | h | h | h
  · obtain ⟨rfl, rfl⟩ := zero (by rw [h]; rfl)
    exact g_num P E W h12 hq h
  · obtain ⟨rfl, rfl⟩ := zero (by rw [h]; rfl)
    exact g_var P E W h12 hq h
  · exact two (Or.inl h)
  · exact two (Or.inr (Or.inl h))
  · exact two (Or.inr (Or.inr (Or.inl h)))
  · exact two (Or.inr (Or.inr (Or.inr (Or.inl h))))
  · exact two (Or.inr (Or.inr (Or.inr (Or.inr h))))
  · refine xx (by rw [h]; decide) (by rw [h]; rfl) (fun h0 hpn => ?_)
    have : tk_np (K (40 * r + i)) (V (40 * r + i)) = 1 := by rw [h]; rfl
    rw [this] at hpn
    subst h0 hpn
    exact g_not P E W h12 hq h
  · exact (n8 h).elim
  · refine yy (Or.inl h) (fun hp1 h0 => ?_)
    have hn : tk_np (K (40 * r + i)) (V (40 * r + i)) = 1 := by rw [h]; rfl
    have : p = 1 := by omega
    subst this h0
    exact g_set P E W h12 hq h
  · refine yy (Or.inr (Or.inl h)) (fun hp1 h0 => ?_)
    have hn : tk_np (K (40 * r + i)) (V (40 * r + i)) = 1 := by rw [h]; rfl
    have : p = 1 := by omega
    subst this h0
    exact g_say P E W h12 hq hss h
  · exact (n12 h).elim
  · exact (n13 h).elim
  · refine yy (Or.inr (Or.inr (Or.inl h))) (fun hp1 h0 => ?_)
    subst h0
    rcases hp1 with rfl | rfl
    · exact g_seq1 P E W h12 hq h
    · exact g_end P E W h12 hq (Or.inl ⟨h, rfl⟩)
  · obtain ⟨rfl, rfl⟩ := zero (by rw [h]; rfl)
    exact g_skip P E W h12 hq h
  · refine yy (Or.inr (Or.inr (Or.inr (Or.inl h)))) (fun hp1 h0 => ?_)
    have hn : tk_np (K (40 * r + i)) (V (40 * r + i)) = 1 := by rw [h]; rfl
    have : p = 1 := by omega
    subst this h0
    exact g_throw P E W h12 hq h
  · exact (n17 h).elim
  · exact (h18 h).elim
  · obtain ⟨rfl, rfl⟩ := zero (by rw [h]; rfl)
    exact g_jump P E W h12 hq (Or.inl h)
  · obtain ⟨rfl, rfl⟩ := zero (by rw [h]; rfl)
    exact g_jump P E W h12 hq (Or.inr h)
  · refine yy (Or.inr (Or.inr (Or.inr (Or.inr h)))) (fun hp1 h0 => ?_)
    have hn : tk_np (K (40 * r + i)) (V (40 * r + i)) = 1 := by rw [h]; rfl
    have : p = 1 := by omega
    subst this h0
    exact g_return P E W h12 hq h
/-- every turn -/
theorem s_all (P : pg_T K V Z U B LN) (E : pg_E K V KY VY LN) (H : pg_H HB LY LN) (A : wf_A K V U LN ((r, i, p, y, c, a, e0, n0, t0) :: st) e n t q) (hss : s < 2000000) : GD f_expectedCount f_draftLength f_latestPlace f_place f_result f_thrown K V Z HB EX KY U LY VY B OP LN ((r, i, p, y, c, a, e0, n0, t0) :: st) e n v t s q va ou ∨ OV f_expectedCount f_draftLength f_latestPlace f_place f_result f_thrown K V Z HB EX KY U LY VY B OP LN ((r, i, p, y, c, a, e0, n0, t0) :: st) e n v t s q va ou := by
  obtain ⟨W, ⟨he, hp0, hcs, h8⟩, h12, hq⟩ := A
  have W' := W
  obtain ⟨_, _, _, h18, hf, _⟩ := W'
  rcases hf with ⟨hk, hf⟩ | ⟨hk, rfl, hf⟩ | ⟨hk | hk, rfl, hp, rfl⟩ | ⟨n17, n12, n13, n8, rfl, rfl, hp, hp2⟩
  · exact Or.inl (s_try P E W h12 hq he hp0 hk hf)
  · exact Or.inl (s_if P E W h12 hq he hp0 hk hf)
  · exact s_while P E W h12 hq he hp0 hcs hk hp
  · exact s_call P E H W h12 hq he hp0 hcs h8 hk hp
  · exact Or.inl (s_plain P E W h12 hq hss he hp0 hcs ⟨n8, n12, n13, n17⟩ h18 hp hp2)
/-- the whole run: one outcome on both sides -/
theorem s_run (P : pg_T K V Z U B LN) (E : pg_E K V KY VY LN) (H : pg_H HB LY LN) : ∀ (N : Nat) (st : List Fr) (e n v : Int32) (t s q : Nat) (va ou : Nat → Int32) (turn : Nat), wf_A K V U LN st e n t q → ph_S K V Z st + 201 * (300 - q) ≤ N → turn + N ≤ 1000000 → s ≤ turn → ∃ (R res kd : Int32) (s' q' : Nat) (va' ou' : Nat → Int32), s' ≤ 2000000 ∧ (∀ post : Int32 → SX → Prop, XF f_expectedCount f_draftLength f_latestPlace K V Z HB EX post R res kd s' q' va' ou' → ∃ m, XA f_expectedCount f_draftLength f_latestPlace K V Z HB EX post m turn st e n v s q va ou) ∧ (∀ post : Int32 → SY → Prop, YF f_place f_result f_thrown K Z KY U LY VY B OP post R res kd s' q' va' ou' → ∃ m, YA f_place f_result f_thrown K Z KY U LY VY B OP post m st e n v t s q va ou) := by
  intro N
  induction N with
  | zero =>
    intro st e n v t s q va ou turn A hN ht hst
    cases st with
    | nil =>
      rcases A.2.1 with rfl | rfl | rfl
      · exact ⟨0, 0, -1, s, q, va, ou, by omega, fun post h => ⟨1, xa_nil0 h⟩, fun post h => ⟨1, ya_nil0 h⟩⟩
      · exact ⟨0, v, -1, s, q, va, ou, by omega, fun post h => ⟨1, xa_nil3 h⟩, fun post h => ⟨1, ya_nil3 h⟩⟩
      · exact ⟨3, v, n, s, q, va, ou, by omega, fun post h => ⟨1, xa_nil4 h⟩, fun post h => ⟨1, ya_nil4 h⟩⟩
    | cons f st =>
      obtain ⟨r, i, p, y, c, a, e0, n0, t0⟩ := f
      have := ph_F_pos (K := K) (V := V) (Z := Z) (r := r) (i := i) (fr_ok_le A.1.2.2.2.2.1)
      have hh : ph_S K V Z st + ph_F K V Z r i p + 201 * (300 - q) ≤ 0 := hN
      omega
  | succ N ih =>
    intro st e n v t s q va ou turn A hN ht hst
    cases st with
    | nil =>
      rcases A.2.1 with rfl | rfl | rfl
      · exact ⟨0, 0, -1, s, q, va, ou, by omega, fun post h => ⟨1, xa_nil0 h⟩, fun post h => ⟨1, ya_nil0 h⟩⟩
      · exact ⟨0, v, -1, s, q, va, ou, by omega, fun post h => ⟨1, xa_nil3 h⟩, fun post h => ⟨1, ya_nil3 h⟩⟩
      · exact ⟨3, v, n, s, q, va, ou, by omega, fun post h => ⟨1, xa_nil4 h⟩, fun post h => ⟨1, ya_nil4 h⟩⟩
    | cons f st =>
      obtain ⟨r, i, p, y, c, a, e0, n0, t0⟩ := f
      rcases s_all (f_expectedCount := f_expectedCount) (f_draftLength := f_draftLength) (f_latestPlace := f_latestPlace) (f_place := f_place) (f_result := f_result) (f_thrown := f_thrown) (EX := EX) (OP := OP) (v := v) (va := va) (ou := ou) P E H A (show s < 2000000 from by omega) with G | O
      · obtain ⟨st', e', n', v', t', s', q', va', ou', A', hm, hs, hX, j, hY⟩ := G
        obtain ⟨R, res, kd, s2, q2, va2, ou2, h2, kX, kY⟩ := ih st' e' n' v' t' s' q' va' ou' (turn + 1) A' (by omega) (by omega) (by omega)
        refine ⟨R, res, kd, s2, q2, va2, ou2, h2, fun post h => ?_, fun post h => ?_⟩
        · obtain ⟨m, hm⟩ := kX post h
          exact ⟨m + 1, hX post m turn (by omega) hm⟩
        · obtain ⟨m, hm⟩ := kY post h
          exact ⟨m + j, hY post m hm⟩
      · obtain ⟨_, hX, hY⟩ := O
        exact ⟨4, 0, -1, s, q, va, ou, by omega, fun post h => ⟨2, hX post turn (by omega) h⟩, fun post h => ⟨2, hY post h⟩⟩
end
