/-- the first place where P holds, or -1 -/
def ub_ans (P : Nat → Prop) (d : Nat) (r : Int32) : Prop := (∃ i, i < d ∧ P i ∧ (∀ j, j < i → ¬ P j) ∧ r = nI i) ∨ ((∀ j, j < d → ¬ P j) ∧ r = -1)
theorem ub_one {P Q : Nat → Prop} {d : Nat} {r r' : Int32} (hPQ : ∀ i, i < d → (P i ↔ Q i)) (h : ub_ans P d r) (h' : ub_ans Q d r') : r' = r := by
  rcases h with ⟨i, hi, a, b, rfl⟩ | ⟨a, rfl⟩ <;> rcases h' with ⟨i', hi', a', b', rfl⟩ | ⟨a', rfl⟩
  · rcases Nat.lt_trichotomy i i' with z | z | z
    · exact (b' i z ((hPQ i hi).mp a)).elim
    · rw [z]
    · exact (b i' z ((hPQ i' hi').mpr a')).elim
  · exact (a' i hi ((hPQ i hi).mp a)).elim
  · exact (a i' hi' ((hPQ i' hi').mpr a')).elim
  · rfl
/-- a loop with this label lies around i, by the sizes -/
def ub_in (k v z : Nat → Int32) (lab : Int32) (i : Nat) : Prop := ∃ j, j < i ∧ i < j + (z j).toNatClampNeg ∧ tr_m k v lab j
/-- a copy of n cells from s on to b on, each by g -/
def cp_n (g : Int32 → Int32) (K : Nat → Int32) (s b n : Nat) : Nat → Int32 := fun j => if b ≤ j ∧ j < b + n then g (K (s + (j - b))) else K j
theorem cp_0 {g : Int32 → Int32} {K : Nat → Int32} {s b : Nat} : cp_n g K s b 0 = K := by
  funext j
  exact if_neg (by omega)
theorem cp_s {g : Int32 → Int32} {K : Nat → Int32} {s b n : Nat} (h : b + n < s) : upd (cp_n g K s b n) (b + n) (g (cp_n g K s b n (s + n))) = cp_n g K s b (n + 1) := by
  funext j
  unfold upd cp_n
  by_cases e : j = b + n
  · rw [if_pos e, if_neg (by omega), if_pos (by omega), e]
    exact congrArg (fun x => g (K x)) (by omega)
  · rw [if_neg e]
    by_cases e2 : b ≤ j ∧ j < b + n
    · rw [if_pos e2, if_pos (by omega)]
    · rw [if_neg e2, if_neg (by omega)]
theorem cp_at {g : Int32 → Int32} {K : Nat → Int32} {s b n i : Nat} (h : i < n) : cp_n g K s b n (b + i) = g (K (s + i)) := by
  unfold cp_n
  rw [if_pos (by omega)]
  exact congrArg (fun x => g (K x)) (by omega)
theorem cp_out {g : Int32 → Int32} {K : Nat → Int32} {s b n j : Nat} (h : j < b ∨ b + n ≤ j) : cp_n g K s b n j = K j := if_neg (by omega)
section
variable {f_expectedCount f_draftLength f_latestPlace f_entryCount f_working f_ending f_endNote f_endValue f_sayCount f_stepCount f_tooLong f_latestResult f_latestKind : Int32} {a_tokenKind a_tokenValue a_tokenSize a_hasBody a_expected a_entryToken a_entryPhase a_keptEnding a_keptNote a_keptValue a_variables a_output : Nat → Int32} {k v z : Nat → Int32} {d : Nat}
theorem qx_isBound {post : Int32 → Prop} (hd : d ≤ 40) (ek : ∀ i, i < d → a_tokenKind (160 + i) = k i) (ev : ∀ i, i < d → a_tokenValue (160 + i) = v i) (ez : ∀ i, i < d → a_tokenSize (160 + i) = z i) (hz : ∀ i, i < d → ∃ s, z i = nI s ∧ s ≤ 40) {i : Nat} (hi : i < d) (h1 : ub_in k v z (v i) i → post 1) (h0 : ¬ ub_in k v z (v i) i → post 0) : wpX_isBound post (f_expectedCount, f_draftLength, f_latestPlace, f_entryCount, f_working, f_ending, f_endNote, f_endValue, f_sayCount, f_stepCount, f_tooLong, f_latestResult, f_latestKind, a_tokenKind, a_tokenValue, a_tokenSize, a_hasBody, a_expected, a_entryToken, a_entryPhase, a_keptEnding, a_keptNote, a_keptValue, a_variables, a_output) (nI i) := by
  have e1 : ∀ j, j < d → (160 : Int32) + nI j = nI (160 + j) := fun j _ => nI_add 160 j
  have ec : ∀ j, j < d → ((160 : Int32) + nI j).toNatClampNeg = 160 + j := fun j hj => by rw [e1 j hj]; exact nI_clamp (by omega)
  have ei : ∀ j, j < d → vp_in ((160 : Int32) + nI j) 200 := fun j hj => by rw [e1 j hj]; exact vp_in_nI (by omega) (by decide)
  have Lp : ∀ m j, j + m = i → (∀ q, q < j → ¬ (i < q + (z q).toNatClampNeg ∧ tr_m k v (v i) q)) → wX_isBound_13 post (nI i) (v i) f_expectedCount f_draftLength f_latestPlace f_entryCount f_working f_ending f_endNote f_endValue f_sayCount f_stepCount f_tooLong f_latestResult f_latestKind a_tokenKind a_tokenValue a_tokenSize a_hasBody a_expected a_entryToken a_entryPhase a_keptEnding a_keptNote a_keptValue a_variables a_output (m + 1) (nI j) := by
    intro m
    induction m with
    | zero =>
      intro j hj hn
      have : j = i := by omega
      subst this
      exact br_t (nI_le (Nat.le_refl _) (by omega)) (h0 (fun ⟨q, a, b⟩ => hn q a b))
    | succ m ih =>
      intro j hj hn
      obtain ⟨s, es, hs⟩ := hz j (by omega)
      have ecz : (z j).toNatClampNeg = s := by rw [es]; exact nI_clamp (by omega)
      have nx : ¬ (i < j + (z j).toNatClampNeg ∧ tr_m k v (v i) j) → wX_isBound_13 post (nI i) (v i) f_expectedCount f_draftLength f_latestPlace f_entryCount f_working f_ending f_endNote f_endValue f_sayCount f_stepCount f_tooLong f_latestResult f_latestKind a_tokenKind a_tokenValue a_tokenSize a_hasBody a_expected a_entryToken a_entryPhase a_keptEnding a_keptNote a_keptValue a_variables a_output (m + 1) (nI (j + 1)) := fun hc => ih (j + 1) (by omega) (fun q hq => by
        by_cases e : q = j
        · subst e; exact hc
        · exact hn q (by omega))
      refine br_f (nI_ge (by omega) (by omega)) ⟨ei j (by omega), ?_⟩
      have esum : nI j + a_tokenSize ((160 : Int32) + nI j).toNatClampNeg = nI (j + s) := by rw [ec j (by omega), ez j (by omega), es, nI_add]
      refine pk_le (j + s) i (fun hle => br_t rfl (nm_r (nI_1 j) (nx (by rw [ecz]; omega)))) (fun hgt => br_f (by decide) ⟨ei j (by omega), ?_⟩) esum rfl
      rw [ec j (by omega), ek j (by omega), ev j (by omega)]
      refine br_c (fun hk => ⟨ei j (by omega), br_c (fun hv => h1 ⟨j, by omega, by omega, hk, hv⟩) (fun hv => nm_r (nI_1 j) (nx (fun z => hv z.2.2)))⟩) (fun hk => nm_r (nI_1 j) (nx (fun z => hk z.2.1)))
  refine ⟨ei i hi, nm_r (e' := v i) (by rw [ec i hi, ev i hi]) ⟨i + 1, Lp i 0 (by omega) (fun q hq => by omega)⟩⟩
theorem qx_unbound {post : Int32 → Prop} (hd : d ≤ 40) (ek : ∀ i, i < d → a_tokenKind (160 + i) = k i) (ev : ∀ i, i < d → a_tokenValue (160 + i) = v i) (ez : ∀ i, i < d → a_tokenSize (160 + i) = z i) (hz : ∀ i, i < d → ∃ s, z i = nI s ∧ s ≤ 40) (h : ∀ r, ub_ans (fun i => (k i = 19 ∨ k i = 20) ∧ ¬ ub_in k v z (v i) i) d r → post r) : wpX_firstUnbound post (f_expectedCount, nI d, f_latestPlace, f_entryCount, f_working, f_ending, f_endNote, f_endValue, f_sayCount, f_stepCount, f_tooLong, f_latestResult, f_latestKind, a_tokenKind, a_tokenValue, a_tokenSize, a_hasBody, a_expected, a_entryToken, a_entryPhase, a_keptEnding, a_keptNote, a_keptValue, a_variables, a_output) := by
  have Lp : ∀ m i, i + m = d → (∀ j, j < i → ¬ ((k j = 19 ∨ k j = 20) ∧ ¬ ub_in k v z (v j) j)) → wX_firstUnbound_2 post f_expectedCount (nI d) f_latestPlace f_entryCount f_working f_ending f_endNote f_endValue f_sayCount f_stepCount f_tooLong f_latestResult f_latestKind a_tokenKind a_tokenValue a_tokenSize a_hasBody a_expected a_entryToken a_entryPhase a_keptEnding a_keptNote a_keptValue a_variables a_output (m + 1) (nI i) := by
    intro m
    induction m with
    | zero =>
      intro i hi hn
      have : i = d := by omega
      subst this
      exact br_t (nI_le (Nat.le_refl _) (by omega)) (h _ (Or.inr ⟨hn, rfl⟩))
    | succ m ih =>
      intro i hi hn
      have nx : ¬ ((k i = 19 ∨ k i = 20) ∧ ¬ ub_in k v z (v i) i) → wX_firstUnbound_2 post f_expectedCount (nI d) f_latestPlace f_entryCount f_working f_ending f_endNote f_endValue f_sayCount f_stepCount f_tooLong f_latestResult f_latestKind a_tokenKind a_tokenValue a_tokenSize a_hasBody a_expected a_entryToken a_entryPhase a_keptEnding a_keptNote a_keptValue a_variables a_output (m + 1) (nI (i + 1)) := fun hc => ih (i + 1) (by omega) (fun q hq => by
        by_cases e : q = i
        · subst e; exact hc
        · exact hn q (by omega))
      have e1 : (160 : Int32) + nI i = nI (160 + i) := nI_add 160 i
      have ec : ((160 : Int32) + nI i).toNatClampNeg = 160 + i := by rw [e1]; exact nI_clamp (by omega)
      have ei : vp_in ((160 : Int32) + nI i) 200 := by rw [e1]; exact vp_in_nI (by omega) (by decide)
      have jump : (k i = 19 ∨ k i = 20) → wX_firstUnbound_33 post (wX_firstUnbound_2 post f_expectedCount (nI d) f_latestPlace f_entryCount f_working f_ending f_endNote f_endValue f_sayCount f_stepCount f_tooLong f_latestResult f_latestKind a_tokenKind a_tokenValue a_tokenSize a_hasBody a_expected a_entryToken a_entryPhase a_keptEnding a_keptNote a_keptValue a_variables a_output (m + 1)) (nI i) f_expectedCount (nI d) f_latestPlace f_entryCount f_working f_ending f_endNote f_endValue f_sayCount f_stepCount f_tooLong f_latestResult f_latestKind a_tokenKind a_tokenValue a_tokenSize a_hasBody a_expected a_entryToken a_entryPhase a_keptEnding a_keptNote a_keptValue a_variables a_output := fun hj =>
        qx_isBound hd ek ev ez hz (i := i) (by omega) (fun hb => br_f (by decide) (nm_r (nI_1 i) (nx (fun z => z.2 hb)))) (fun hb => br_t rfl (h _ (Or.inl ⟨i, by omega, ⟨hj, hb⟩, hn, rfl⟩)))
      exact br_f (nI_ge (by omega) (by omega)) ⟨ei, nm_r (e' := k i) (by rw [ec, ek i (by omega)]) (br_c (fun a => jump (Or.inl a)) (fun a => br_c (fun b => jump (Or.inr b)) (fun b => nm_r (nI_1 i) (nx (fun z => z.1.elim a b)))))⟩
  exact ⟨d + 1, Lp d 0 (by omega) (fun q hq => by omega)⟩
theorem qx_copy {post : SX → Prop} {f : Nat} (hf : f < 4) (hd : d ≤ 40) (h : post (f_expectedCount, nI d, f_latestPlace, f_entryCount, f_working, f_ending, f_endNote, f_endValue, f_sayCount, f_stepCount, f_tooLong, f_latestResult, f_latestKind, cp_n id a_tokenKind 160 (40 * f) d, cp_n id a_tokenValue 160 (40 * f) d, cp_n id a_tokenSize 160 (40 * f) d, upd a_hasBody f 1, a_expected, a_entryToken, a_entryPhase, a_keptEnding, a_keptNote, a_keptValue, a_variables, a_output)) : wpX_copyDraft post (f_expectedCount, nI d, f_latestPlace, f_entryCount, f_working, f_ending, f_endNote, f_endValue, f_sayCount, f_stepCount, f_tooLong, f_latestResult, f_latestKind, a_tokenKind, a_tokenValue, a_tokenSize, a_hasBody, a_expected, a_entryToken, a_entryPhase, a_keptEnding, a_keptNote, a_keptValue, a_variables, a_output) (nI f) := by
  have Lp : ∀ m i, i + m = d → wX_copyDraft_7 post (nI f) (nI (40 * f)) f_expectedCount (nI d) f_latestPlace f_entryCount f_working f_ending f_endNote f_endValue f_sayCount f_stepCount f_tooLong f_latestResult f_latestKind (m + 1) (nI i) (cp_n id a_tokenKind 160 (40 * f) i) (cp_n id a_tokenValue 160 (40 * f) i) (cp_n id a_tokenSize 160 (40 * f) i) a_hasBody a_expected a_entryToken a_entryPhase a_keptEnding a_keptNote a_keptValue a_variables a_output := by
    intro m
    induction m with
    | zero =>
      intro i hi
      have : i = d := by omega
      subst this
      exact br_t (nI_le (Nat.le_refl _) (by omega)) ⟨vp_in_nI hf (by decide), nm_r (by rw [nI_clamp (by omega)]; rfl) h⟩
    | succ m ih =>
      intro i hi
      have e1 : (160 : Int32) + nI i = nI (160 + i) := nI_add 160 i
      have ec : ((160 : Int32) + nI i).toNatClampNeg = 160 + i := by rw [e1]; exact nI_clamp (by omega)
      have ei : vp_in ((160 : Int32) + nI i) 200 := by rw [e1]; exact vp_in_nI (by omega) (by decide)
      have e2 : nI (40 * f) + nI i = nI (40 * f + i) := nI_add _ i
      have ec2 : (nI (40 * f) + nI i).toNatClampNeg = 40 * f + i := by rw [e2]; exact nI_clamp (by omega)
      have ei2 : vp_in (nI (40 * f) + nI i) 200 := by rw [e2]; exact vp_in_nI (by omega) (by decide)
      refine br_f (nI_ge (by omega) (by omega)) ⟨ei, ei2, nm_r ?_ ⟨ei, ei2, nm_r ?_ ⟨ei, ei2, nm_r ?_ (nm_r (nI_1 i) (ih (i + 1) (by omega)))⟩⟩⟩
      all_goals
        rw [ec, ec2]
        exact cp_s (g := id) (by omega)
  refine nm_r (e' := nI (40 * f)) (by rw [Nat.mul_comm]; exact pk_mul f 40) ⟨d + 1, ?_⟩
  have := Lp d 0 (by omega)
  simp only [cp_0] at this
  exact this
/-- X's define at a function's number: what it may answer, and in which state it ends -/
theorem qx_define {post : Int32 → SX → Prop} {f : Nat} (hf : f < 4) (hd : d ≤ 40) (ek : ∀ i, i < d → a_tokenKind (160 + i) = k i) (ev : ∀ i, i < d → a_tokenValue (160 + i) = v i) (H : ∀ i, i < d → tk_ok (k i) (v i))
    (hA : ∀ r ec ex, ps_ans k v d r → r ≠ -1 → post 1 (ec, 0, r, f_entryCount, f_working, f_ending, f_endNote, f_endValue, f_sayCount, f_stepCount, f_tooLong, f_latestResult, f_latestKind, a_tokenKind, a_tokenValue, a_tokenSize, a_hasBody, ex, a_entryToken, a_entryPhase, a_keptEnding, a_keptNote, a_keptValue, a_variables, a_output))
    (hB : ∀ r ec ex Z, ps_ok k v d → ps_st k v d = [] → (∀ j, j < 160 → Z j = a_tokenSize j) → (∀ j, j < d → ps_gd d k v (fun i => Z (160 + i)) j) → ub_ans (fun i => (k i = 19 ∨ k i = 20) ∧ ¬ ub_in k v (fun i => Z (160 + i)) (v i) i) d r → r ≠ -1 → post 2 (ec, 0, r, f_entryCount, f_working, f_ending, f_endNote, f_endValue, f_sayCount, f_stepCount, f_tooLong, f_latestResult, f_latestKind, a_tokenKind, a_tokenValue, Z, a_hasBody, ex, a_entryToken, a_entryPhase, a_keptEnding, a_keptNote, a_keptValue, a_variables, a_output))
    (hC : ∀ ec ex Z, ps_ok k v d → ps_st k v d = [] → (∀ j, j < 160 → Z j = a_tokenSize j) → (∀ j, j < d → ps_gd d k v (fun i => Z (160 + i)) j) → ub_ans (fun i => (k i = 19 ∨ k i = 20) ∧ ¬ ub_in k v (fun i => Z (160 + i)) (v i) i) d (-1) → post 0 (ec, 0, -1, f_entryCount, f_working, f_ending, f_endNote, f_endValue, f_sayCount, f_stepCount, f_tooLong, f_latestResult, f_latestKind, cp_n id a_tokenKind 160 (40 * f) d, cp_n id a_tokenValue 160 (40 * f) d, cp_n id Z 160 (40 * f) d, upd a_hasBody f 1, ex, a_entryToken, a_entryPhase, a_keptEnding, a_keptNote, a_keptValue, a_variables, a_output)) : wpX_define post (f_expectedCount, nI d, f_latestPlace, f_entryCount, f_working, f_ending, f_endNote, f_endValue, f_sayCount, f_stepCount, f_tooLong, f_latestResult, f_latestKind, a_tokenKind, a_tokenValue, a_tokenSize, a_hasBody, a_expected, a_entryToken, a_entryPhase, a_keptEnding, a_keptNote, a_keptValue, a_variables, a_output) (nI f) := by
  unfold wpX_define
  refine qx_isF hf (br_f (by decide) ?_)
  unfold wpX_judgeDraft
  refine qx_misfit hd ek ev H (fun r ec ex ha => ?_)
  by_cases hr : r = -1
  · subst hr
    have hg : ps_ok k v d ∧ ps_st k v d = [] := by
      rcases ha with ⟨i, hi, _, _, e⟩ | ⟨_, _, e⟩ | ⟨a, b, _⟩
      · exact (qb_ne_m1 (by omega) e.symm).elim
      · exact (qb_ne_m1 (by omega) e.symm).elim
      · exact ⟨a, b⟩
    refine br_t rfl (qx_measure hd ek ev H hg.2 (fun Z hZ hG => ?_))
    refine qx_unbound (z := fun i => Z (160 + i)) hd ek ev (fun _ _ => rfl) (fun i hi => ?_) (fun r hu => ?_)
    · obtain ⟨s, s1, s2, s3, _⟩ := hG i hi
      exact ⟨s, s3, by omega⟩
    · by_cases h1 : r = -1
      · subst h1
        exact br_t rfl (br_t rfl (qx_copy hf hd (hC _ _ Z hg.1 hg.2 hZ hG hu)))
      · exact br_f h1 (br_f (by decide) (hB _ _ _ Z hg.1 hg.2 hZ hG hu h1))
  · exact br_f hr (br_f (by decide) (hA _ _ _ ha hr))
end
