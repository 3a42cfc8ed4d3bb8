/-- token i fits -/
def ps_fit (k v : Nat → Int32) (i : Nat) : Prop := ∃ x xs, ps_st k v i = x :: xs ∧ tk_so (k i) = ps_wn k v x
/-- where the draft stops being the beginning of a statement -/
def ps_ans (k v : Nat → Int32) (d : Nat) (r : Int32) : Prop := (∃ i, i < d ∧ ps_ok k v i ∧ ¬ ps_fit k v i ∧ r = nI i) ∨ (ps_ok k v d ∧ ps_st k v d ≠ [] ∧ r = nI d) ∨ (ps_ok k v d ∧ ps_st k v d = [] ∧ r = -1)
theorem ps_ans_one {k v : Nat → Int32} {d : Nat} {r r' : Int32} (h : ps_ans k v d r) (h' : ps_ans k v d r') : r' = r := by
  rcases h with ⟨i, hi, ok, nf, rfl⟩ | ⟨ok, ne, rfl⟩ | ⟨ok, ne, rfl⟩ <;> rcases h' with ⟨i', hi', ok', nf', rfl⟩ | ⟨ok', ne', rfl⟩ | ⟨ok', ne', rfl⟩
  · rcases Nat.lt_trichotomy i i' with z | z | z
    · exact (nf (ok' i z)).elim
    · rw [z]
    · exact (nf' (ok i' z)).elim
  · exact (nf (ok' i hi)).elim
  · exact (nf (ok' i hi)).elim
  · exact (nf' (ok i' hi')).elim
  · rfl
  · exact (ne ne').elim
  · exact (nf' (ok i' hi')).elim
  · exact (ne' ne).elim
  · rfl
theorem ps_wn_lt {k v : Nat → Int32} {x : Nat} : ps_wn k v x < 3 := by
  unfold ps_wn tk_wt
  repeat' split
  all_goals omega
theorem tk_so_lt {k : Int32} : tk_so k < 3 := by
  unfold tk_so
  repeat' split
  all_goals omega
/-- the stack of expected sorts stands for the places that are wanting -/
def xe_R (k v : Nat → Int32) (ex : Nat → Int32) : List Nat → Prop
  | [] => True
  | x :: xs => ex xs.length = nI (ps_wn k v x + 1) ∧ xe_R k v ex xs
theorem xe_keep {k v ex ex' : Nat → Int32} : ∀ l : List Nat, (∀ q, q < l.length → ex' q = ex q) → xe_R k v ex l → xe_R k v ex' l := by
  intro l
  induction l with
  | nil => intro _ _; trivial
  | cons x xs ih => intro h hr; exact ⟨(h _ (Nat.lt_succ_self _)).trans hr.1, ih (fun q hq => h q (Nat.lt_succ_of_lt hq)) hr.2⟩
/-- n times s from place c on -/
def xe_f (ex : Nat → Int32) (c n : Nat) (s : Int32) : Nat → Int32 := fun q => if c ≤ q ∧ q < c + n then s else ex q
section
variable {f_expectedCount f_draftLength f_latestPlace f_entryCount f_working f_ending f_endNote f_endValue f_sayCount f_stepCount f_tooLong f_latestResult f_latestKind : Int32} {a_tokenKind a_tokenValue a_tokenSize a_hasBody a_expected a_entryToken a_entryPhase a_keptEnding a_keptNote a_keptValue a_variables a_output : Nat → Int32}
theorem qx_expect {post : SX → Prop} {s : Int32} {c n : Nat} (hc : c + n ≤ 121) (h : post (nI (c + n), f_draftLength, f_latestPlace, f_entryCount, f_working, f_ending, f_endNote, f_endValue, f_sayCount, f_stepCount, f_tooLong, f_latestResult, f_latestKind, a_tokenKind, a_tokenValue, a_tokenSize, a_hasBody, xe_f a_expected c n s, a_entryToken, a_entryPhase, a_keptEnding, a_keptNote, a_keptValue, a_variables, a_output)) : wpX_expect post (nI c, f_draftLength, f_latestPlace, f_entryCount, f_working, f_ending, f_endNote, f_endValue, f_sayCount, f_stepCount, f_tooLong, f_latestResult, f_latestKind, a_tokenKind, a_tokenValue, a_tokenSize, a_hasBody, a_expected, a_entryToken, a_entryPhase, a_keptEnding, a_keptNote, a_keptValue, a_variables, a_output) s (nI n) := by
  have L : ∀ m j, j + m = n → wX_expect_2 post s (nI n) f_draftLength f_latestPlace f_entryCount f_working f_ending f_endNote f_endValue f_sayCount f_stepCount f_tooLong f_latestResult f_latestKind (m + 1) (nI j) (nI (c + j)) a_tokenKind a_tokenValue a_tokenSize a_hasBody (xe_f a_expected c j s) a_entryToken a_entryPhase a_keptEnding a_keptNote a_keptValue a_variables a_output := by
    intro m
    induction m with
    | zero =>
      intro j hj
      have : j = n := by omega
      subst this
      exact br_t (nI_le (Nat.le_refl _) (by omega)) h
    | succ m ih =>
      intro j hj
      refine br_f (nI_ge (by omega) (by omega)) (br_f (nI_ge (b := 121) (by omega) (by decide)) ⟨vp_in_nI (by omega) (by decide), nm_r (e' := xe_f a_expected c (j + 1) s) ?_ (nm_r (e' := nI (c + (j + 1))) (nI_1 _) (nm_r (nI_1 j) (ih (j + 1) (by omega))))⟩)
      rw [nI_clamp (by omega)]
      funext q
      unfold upd xe_f
      by_cases e : q = c + j
      · rw [if_pos e, if_pos (by omega)]
      · rw [if_neg e]
        by_cases e2 : c ≤ q ∧ q < c + j
        · rw [if_pos e2, if_pos (by omega)]
        · rw [if_neg e2, if_neg (by omega)]
  have e0 : xe_f a_expected c 0 s = a_expected := by funext q; exact if_neg (by omega)
  have := L n 0 (by omega)
  rw [e0] at this
  exact ⟨n + 1, this⟩
/-- the four rows of sorts that a token expects -/
def xe_4 (ex : Nat → Int32) (c : Nat) (k v : Int32) : Nat → Int32 := xe_f (xe_f (xe_f (xe_f ex c (tk_f k v) 2) (c + tk_f k v) (tk_c k v) 3) (c + tk_f k v + tk_c k v) (tk_sn k) 2) (c + tk_f k v + tk_c k v + tk_sn k) (tk_xn k) 1
theorem qx_expectParts {post : SX → Prop} {k v : Int32} {c : Nat} (hk : tk_ok k v) (hc : c + tk_np k v ≤ 121) (h : post (nI (c + tk_np k v), f_draftLength, f_latestPlace, f_entryCount, f_working, f_ending, f_endNote, f_endValue, f_sayCount, f_stepCount, f_tooLong, f_latestResult, f_latestKind, a_tokenKind, a_tokenValue, a_tokenSize, a_hasBody, xe_4 a_expected c k v, a_entryToken, a_entryPhase, a_keptEnding, a_keptNote, a_keptValue, a_variables, a_output)) : wpX_expectParts post (nI c, f_draftLength, f_latestPlace, f_entryCount, f_working, f_ending, f_endNote, f_endValue, f_sayCount, f_stepCount, f_tooLong, f_latestResult, f_latestKind, a_tokenKind, a_tokenValue, a_tokenSize, a_hasBody, a_expected, a_entryToken, a_entryPhase, a_keptEnding, a_keptNote, a_keptValue, a_variables, a_output) k v := by
  have e := tk_np_sum hk
  rw [show c + tk_np k v = c + tk_f k v + tk_c k v + tk_sn k + tk_xn k from by omega] at h
  unfold wpX_expectParts
  exact qx_fin hk (qx_cat hk (qx_stat hk (qx_expr hk (qx_expect (by omega) (qx_expect (by omega) (qx_expect (by omega) (qx_expect (by omega) h)))))))
end
theorem xe_4_lo {ex : Nat → Int32} {c : Nat} {k v : Int32} {q : Nat} (h : q < c) : xe_4 ex c k v q = ex q := by
  unfold xe_4 xe_f
  rw [if_neg (by omega), if_neg (by omega), if_neg (by omega), if_neg (by omega)]
theorem xe_4_at {ex : Nat → Int32} {c : Nat} {k v : Int32} (hk : tk_ok k v) {o n : Nat} (h : o + (n + 1) = tk_np k v) : xe_4 ex c k v (n + c) = nI (tk_wt k v o + 1) := by
  have key : (if tk_f k v + tk_c k v + tk_sn k ≤ n then (1 : Int32) else if tk_f k v + tk_c k v ≤ n then 2 else if tk_f k v ≤ n then 3 else 2) = nI (tk_wt k v o + 1) := by
    have h4 := tk_np_le hk
    have eo : o = 0 ∨ o = 1 ∨ o = 2 ∨ o = 3 := by omega
    have en : n = 0 ∨ n = 1 ∨ n = 2 ∨ n = 3 := by omega
    by_cases e17 : k = 17
    · subst e17
      rcases tk_try hk with rfl | rfl | rfl | rfl | rfl <;> rcases eo with rfl | rfl | rfl | rfl <;> rcases en with rfl | rfl | rfl | rfl <;> first | rfl | (exact absurd h (by decide))
    · have q : tk_np k v = tk_np k 0 := by unfold tk_np; rw [if_neg e17, if_neg e17]
      rw [q] at h
      rcases tk_kinds hk with rfl | rfl | rfl | rfl | rfl | rfl | rfl | rfl | rfl | rfl | rfl | rfl | rfl | rfl | rfl | rfl | rfl | rfl | rfl | rfl | rfl
      all_goals first
        | exact absurd rfl e17
        | (rcases eo with rfl | rfl | rfl | rfl <;> rcases en with rfl | rfl | rfl | rfl <;> first | rfl | (exact absurd h (by decide)))
  have hs := tk_np_sum hk
  rw [← key]
  unfold xe_4 xe_f
  by_cases h1 : tk_f k v + tk_c k v + tk_sn k ≤ n
  · rw [if_pos (by omega), if_pos h1]
  · rw [if_neg (by omega), if_neg h1]
    by_cases h2 : tk_f k v + tk_c k v ≤ n
    · rw [if_pos (by omega), if_pos h2]
    · rw [if_neg (by omega), if_neg h2]
      by_cases h3 : tk_f k v ≤ n
      · rw [if_pos (by omega), if_pos h3]
      · rw [if_neg (by omega), if_neg h3, if_pos (by omega)]
theorem xe_ch {k v ex : Nat → Int32} {i : Nat} {tl : List Nat} (hk : tk_ok (k i) (v i)) (hi : i < 900) (hR : xe_R k v ex tl) : ∀ n o, o + n = tk_np (k i) (v i) → xe_R k v (xe_4 ex tl.length (k i) (v i)) (ps_ch i o n ++ tl) := by
  have h4 := tk_np_le hk
  intro n
  induction n with
  | zero => intro o _; exact xe_keep tl (fun q hq => xe_4_lo hq) hR
  | succ n ih =>
    intro o ho
    refine ⟨?_, ih (o + 1) (by omega)⟩
    show xe_4 _ _ _ _ (ps_ch i (o + 1) n ++ tl).length = _
    rw [List.length_append, ps_ch_len, xe_4_at hk ho]
    unfold ps_wn
    rw [if_neg (by omega), show (4 * i + o) / 4 = i from by omega, show (4 * i + o) % 4 = o from by omega]

theorem tr_ca_ge {z : Nat → Int32} {i : Nat} : ∀ o, i < tr_ca z i o := by
  intro o
  induction o with
  | zero => exact Nat.lt_succ_self i
  | succ o ih => show i < _ + _; omega
theorem tr_ca_gcongr {z z' : Nat → Int32} {i : Nat} (h : ∀ q, i < q → z' q = z q) : ∀ o, tr_ca z' i o = tr_ca z i o := by
  intro o
  induction o with
  | zero => rfl
  | succ o ih => show _ + _ = _ + _; rw [ih, h _ (tr_ca_ge o)]
theorem ps_gd_congr {L : Nat} {k v z z' : Nat → Int32} {j : Nat} (h : ∀ q, j ≤ q → z' q = z q) (g : ps_gd L k v z j) : ps_gd L k v z' j := by
  obtain ⟨s, a, b, c, d, e⟩ := g
  exact ⟨s, a, b, (h j (Nat.le_refl _)).trans c, d, (tr_ca_gcongr (fun q hq => h q (by omega)) _).trans e⟩
section
variable {f_expectedCount f_draftLength f_latestPlace f_entryCount f_working f_ending f_endNote f_endValue f_sayCount f_stepCount f_tooLong f_latestResult f_latestKind : Int32} {a_tokenKind a_tokenValue a_tokenSize a_hasBody a_expected a_entryToken a_entryPhase a_keptEnding a_keptNote a_keptValue a_variables a_output : Nat → Int32} {k v : Nat → Int32} {d : Nat}
theorem qx_misfit {post : Int32 → SX → Prop} (hd : d ≤ 40) (ek : ∀ i, i < d → a_tokenKind (160 + i) = k i) (ev : ∀ i, i < d → a_tokenValue (160 + i) = v i) (H : ∀ i, i < d → tk_ok (k i) (v i)) (h : ∀ r ec ex, ps_ans k v d r → post r (ec, nI d, f_latestPlace, f_entryCount, f_working, f_ending, f_endNote, f_endValue, f_sayCount, f_stepCount, f_tooLong, f_latestResult, f_latestKind, a_tokenKind, a_tokenValue, a_tokenSize, a_hasBody, ex, a_entryToken, a_entryPhase, a_keptEnding, a_keptNote, a_keptValue, a_variables, a_output)) : wpX_firstMisfit post (f_expectedCount, nI d, f_latestPlace, f_entryCount, f_working, f_ending, f_endNote, f_endValue, f_sayCount, f_stepCount, f_tooLong, f_latestResult, f_latestKind, a_tokenKind, a_tokenValue, a_tokenSize, a_hasBody, a_expected, a_entryToken, a_entryPhase, a_keptEnding, a_keptNote, a_keptValue, a_variables, a_output) := by
  have Lp : ∀ m i ex, i + m = d → ps_ok k v i → xe_R k v ex (ps_st k v i) → wX_firstMisfit_13 post (m + 1) (nI i) (nI (ps_st k v i).length) (nI d) f_latestPlace f_entryCount f_working f_ending f_endNote f_endValue f_sayCount f_stepCount f_tooLong f_latestResult f_latestKind a_tokenKind a_tokenValue a_tokenSize a_hasBody ex a_entryToken a_entryPhase a_keptEnding a_keptNote a_keptValue a_variables a_output := by
    intro m
    induction m with
    | zero =>
      intro i ex hi hok hR
      have : i = d := by omega
      subst this
      refine br_t (nI_le (Nat.le_refl _) (by omega)) ?_
      have hl := ps_len H i (Nat.le_refl _) hok
      cases e : ps_st k v i with
      | nil => exact br_t rfl (h _ _ _ (Or.inr (Or.inr ⟨hok, e, rfl⟩)))
      | cons x xs => exact br_f (nI_ne0 (Nat.succ_pos _) (by rw [e] at hl; exact Nat.lt_of_le_of_lt hl (by omega))) (h _ _ _ (Or.inr (Or.inl ⟨hok, (by rw [e]; exact fun z => nomatch z), rfl⟩)))
    | succ m ih =>
      intro i ex hi hok hR
      have hl := ps_len H i (by omega) hok
      have e1 : (160 : Int32) + nI i = nI (160 + i) := nI_add 160 i
      have ec : ((160 : Int32) + nI i).toNatClampNeg = 160 + i := by rw [e1]; exact nI_clamp (by omega)
      have ei : vp_in ((160 : Int32) + nI i) 200 := by rw [e1]; exact vp_in_nI (by omega) (by decide)
      have hk := H i (by omega)
      refine br_f (nI_ge (by omega) (by omega)) ⟨ei, nm_r (e' := k i) (by rw [ec, ek i (by omega)]) ?_⟩
      cases e : ps_st k v i with
      | nil => exact br_t rfl (h _ _ _ (Or.inl ⟨i, by omega, hok, (by rintro ⟨x, xs, e', _⟩; rw [e] at e'; exact nomatch e'), rfl⟩))
      | cons x xs =>
        rw [e] at hl hR
        have hl' : xs.length + 1 ≤ 1 + 3 * i := hl
        have e3 : nI (x :: xs).length - 1 = nI xs.length := nI_pred xs.length
        refine br_f (nI_ne0 (Nat.succ_pos _) (by show xs.length + 1 < _; omega)) ⟨by rw [e3]; exact vp_in_nI (by omega) (by decide), qx_sort hk ?_⟩
        have e4 : ex (nI (x :: xs).length - 1).toNatClampNeg = nI (ps_wn k v x + 1) := by rw [e3, nI_clamp (by omega)]; exact hR.1
        have hw : ps_wn k v x < 3 := ps_wn_lt
        have hs : tk_so (k i) < 3 := tk_so_lt
        by_cases hf : tk_so (k i) = ps_wn k v x
        · refine br_t (e4.trans (by rw [hf])) (nm_r e3 ⟨ei, ?_⟩)
          rw [ec, ev i (by omega)]
          have h4 := tk_np_le hk
          refine qx_expectParts hk (by omega) (nm_r (nI_1 i) ?_)
          have el : xs.length + tk_np (k i) (v i) = (ps_st k v (i + 1)).length := by
            show _ = (ps_ch i 0 _ ++ (ps_st k v i).tail).length
            rw [List.length_append, ps_ch_len, e]
            show _ = _ + xs.length
            omega
          rw [el]
          refine ih (i + 1) _ (by omega) (fun j hj => ?_) ?_
          · by_cases ej : j = i
            · subst ej; exact ⟨x, xs, e, hf⟩
            · exact hok j (by omega)
          · have := xe_ch (i := i) hk (by omega) hR.2 (tk_np (k i) (v i)) 0 (by omega)
            show xe_R k v _ (ps_ch i 0 _ ++ (ps_st k v i).tail)
            rw [e]
            exact this
        · refine br_f (fun z => hf ?_) (h _ _ _ (Or.inl ⟨i, by omega, hok, ?_, rfl⟩))
          · have := (nI_eq (by omega) (by omega)).mp (e4.symm.trans z)
            omega
          · rintro ⟨y, ys, e', hy⟩
            rw [e] at e'
            have := (List.cons.inj e').1
            subst this
            exact hf hy
  unfold wpX_firstMisfit
  refine qx_expect (c := 0) (n := 1) (s := 2) (by omega) ⟨d + 1, ?_⟩
  exact Lp d 0 _ (by omega) (fun j hj => by omega) ⟨if_pos (by decide), trivial⟩
theorem qx_measure {post : SX → Prop} (hd : d ≤ 40) (ek : ∀ i, i < d → a_tokenKind (160 + i) = k i) (ev : ∀ i, i < d → a_tokenValue (160 + i) = v i) (H : ∀ i, i < d → tk_ok (k i) (v i)) (hE : ps_st k v d = []) (h : ∀ Z : Nat → Int32, (∀ j, j < 160 → Z j = a_tokenSize j) → (∀ j, j < d → ps_gd d k v (fun i => Z (160 + i)) j) → post (f_expectedCount, nI d, f_latestPlace, f_entryCount, f_working, f_ending, f_endNote, f_endValue, f_sayCount, f_stepCount, f_tooLong, f_latestResult, f_latestKind, a_tokenKind, a_tokenValue, Z, a_hasBody, a_expected, a_entryToken, a_entryPhase, a_keptEnding, a_keptNote, a_keptValue, a_variables, a_output)) : wpX_measureDraft post (f_expectedCount, nI d, f_latestPlace, f_entryCount, f_working, f_ending, f_endNote, f_endValue, f_sayCount, f_stepCount, f_tooLong, f_latestResult, f_latestKind, a_tokenKind, a_tokenValue, a_tokenSize, a_hasBody, a_expected, a_entryToken, a_entryPhase, a_keptEnding, a_keptNote, a_keptValue, a_variables, a_output) := by
  have Lp : ∀ m (Z : Nat → Int32), m ≤ d → (∀ j, j < 160 → Z j = a_tokenSize j) → (∀ j, m ≤ j → j < d → ps_gd d k v (fun i => Z (160 + i)) j) → wX_measureDraft_7 post f_expectedCount (nI d) f_latestPlace f_entryCount f_working f_ending f_endNote f_endValue f_sayCount f_stepCount f_tooLong f_latestResult f_latestKind (m + 1) (nI m + (-1)) a_tokenKind a_tokenValue Z a_hasBody a_expected a_entryToken a_entryPhase a_keptEnding a_keptNote a_keptValue a_variables a_output := by
    intro m
    induction m with
    | zero => intro Z _ h1 h2; exact br_t (by decide) (h Z h1 (fun j hj => h2 j (by omega) hj))
    | succ m ih =>
      intro Z hm h1 h2
      rw [pk_m1]
      have G : ∀ j, m < j → j < d → ps_gd d k v (fun i => Z (160 + i)) j := fun j a b => h2 j (by omega) b
      have C := ps_child hd hE (i := m) (by omega) G
      obtain ⟨c1, c2, _, _⟩ := C _ (Nat.le_refl _)
      have ek' := ek m (by omega)
      have ev' := ev m (by omega)
      refine br_f (nI_pos (by omega)) (nm_r (e' := nI (160 + m)) (nI_add 160 m) (qx_parts (j := 160 + m) (by omega) (by rw [ek', ev']; exact H m (by omega)) ?_))
      have h4 := tk_np_le (H m (by omega))
      rw [ek', ev']
      refine qx_partAt (b := 160) (i := m) (fun q hq => ?_) (by omega) ⟨vp_in_nI (by omega) (by decide), ?_⟩
      · obtain ⟨a1, a2, a3, a4⟩ := C q (by omega)
        obtain ⟨s, s1, s2, s3, _⟩ := G _ a1 (a4 hq)
        exact ⟨s, by have := a4 hq; omega, s3, by omega⟩
      · refine nm_r (e' := upd Z (160 + m) (nI (tr_ca (fun i => Z (160 + i)) m (tk_np (k m) (v m)) - m))) ?_ (nm_e (ih _ (by omega) (fun j hj => (pk_un (by omega)).trans (h1 j hj)) (fun j hj hjd => ?_)))
        · rw [nI_clamp (by omega), pk_sub (by omega)]
          exact congrArg (fun x => upd Z (160 + m) (nI x)) (by omega)
        · by_cases e : j = m
          · subst e
            have hz : ∀ q, j < q → upd Z (160 + j) (nI (tr_ca (fun i => Z (160 + i)) j (tk_np (k j) (v j)) - j)) (160 + q) = Z (160 + q) := fun q hq => pk_un (by omega)
            refine ps_gd_new hd hE hjd (fun q h3 h5 => ps_gd_congr (fun p hp => hz p (by omega)) (G q h3 h5)) ?_
            show upd Z (160 + j) _ (160 + j) = _
            rw [pk_us, tr_ca_gcongr hz]
          · exact ps_gd_congr (fun q hq => pk_un (by omega)) (G j (by omega) hjd)
  refine nm_r (e' := nI d + (-1)) ?_ ⟨d + 1, Lp d a_tokenSize (Nat.le_refl _) (fun _ _ => rfl) (fun j a b => by omega)⟩
  rw [Int32.sub_eq_add_neg]
end
