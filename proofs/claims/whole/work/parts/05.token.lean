theorem tk_mk_free {n : Nat} {v : Int32} (hn : n < 22) (h : n ≠ 9 ∧ n ≠ 1 ∧ n ≠ 10 ∧ n ≠ 8 ∧ n ≠ 13 ∧ n ≠ 16 ∧ n ≠ 19 ∧ n ≠ 20 ∧ n ≠ 17 ∧ n ≠ 18) : tk_ok (nI n) v := ⟨n, rfl, hn, h.1, fun z => by omega, fun z => by omega, fun z => by omega, fun z => by omega⟩
theorem tk_mk6 {n m : Nat} (hn : n = 1 ∨ n = 10) (hm : m < 6) : tk_ok (nI n) (nI m) := ⟨n, rfl, by omega, by omega, fun _ => ⟨m, hm, rfl⟩, fun z => by omega, fun z => by omega, fun z => by omega⟩
theorem tk_mk4 {n m : Nat} (hn : n = 8 ∨ n = 13 ∨ n = 16 ∨ n = 19 ∨ n = 20) (hm : m < 4) : tk_ok (nI n) (nI m) := ⟨n, rfl, by omega, by omega, fun z => by omega, fun _ => ⟨m, hm, rfl⟩, fun z => by omega, fun z => by omega⟩
theorem tk_mk17 {v : Int32} (h : v = 1 ∨ v = 2 ∨ v = 4 ∨ v = 5 ∨ v = 6) : tk_ok 17 v := ⟨17, rfl, by omega, by omega, fun z => by omega, fun z => by omega, fun _ => h, fun z => by omega⟩
theorem tk_mk18 {m : Nat} (hm : m < 48) (h : m % 8 < 5) : tk_ok 18 (nI m) := ⟨18, rfl, by omega, by omega, fun z => by omega, fun z => by omega, fun z => by omega, fun _ => ⟨m, hm, rfl, h⟩⟩
/-- Y's look at a token -/
def yc_tok (bad : Prop) (post : Int32 → Prop) (k v : Int32) : Prop := wpY_out (fun r => (r = 0 → ((k = 9 → bad) ∧ (¬ k = 9 → wpY_fits post k v))) ∧ (¬ r = 0 → bad)) k 22
def tk_say (k v : Int32) : Prop := (tk_ok k v ∧ (∀ (post : Int32 → Prop) (u : SX), post 1 → wpX_allows post u k v) ∧ (∀ (bad : Prop) (post : Int32 → Prop), post 1 → yc_tok bad post k v)) ∨ ((∀ (post : Int32 → Prop) (u : SX), post 0 → wpX_allows post u k v) ∧ (∀ (bad : Prop) (post : Int32 → Prop), bad → post 0 → yc_tok bad post k v))
section
theorem tk_say6 {n : Nat} (hn : n = 1 ∨ n = 10) (v : Int32) : tk_say (nI n) v := by
  rcases qb_fun v (n := 6) (by decide) with hv | hv | ⟨m, hm, rfl⟩
  · refine Or.inr ⟨fun post u h => ?_, fun bad post h' h => ?_⟩
    · obtain ⟨f_expectedCount, f_draftLength, f_latestPlace, f_entryCount, f_working, f_ending, f_endNote, f_endValue, f_sayCount, f_stepCount, f_tooLong, f_latestResult, f_latestKind, a_tokenKind, a_tokenValue, a_tokenSize, a_hasBody, a_expected, a_entryToken, a_entryPhase, a_keptEnding, a_keptNote, a_keptValue, a_variables, a_output⟩ := u
      rcases hn with rfl | rfl <;> (repeat (first | exact h | exact qb_nr0 | exact qb_nr1 | refine br_t (by decide) ?_ | refine br_f (by decide) ?_ | refine br_t hv ?_ | refine br_f hv ?_ | refine br_f hv.1 ?_ | refine br_t hv.2 ?_ | refine br_f hw ?_ | refine And.intro qb_nr0 ?_ | refine And.intro qb_nr1 ?_))
    · rcases hn with rfl | rfl <;> (repeat (first | exact h | exact qb_nr0 | exact qb_nr1 | refine br_t (by decide) ?_ | refine br_f (by decide) ?_ | refine br_t hv ?_ | refine br_f hv ?_ | refine br_f hv.1 ?_ | refine br_t hv.2 ?_ | refine br_f hw ?_ | refine And.intro qb_nr0 ?_ | refine And.intro qb_nr1 ?_))
  · have hw : ¬ v < 6 := Int32.not_lt.mpr hv.2
    refine Or.inr ⟨fun post u h => ?_, fun bad post h' h => ?_⟩
    · obtain ⟨f_expectedCount, f_draftLength, f_latestPlace, f_entryCount, f_working, f_ending, f_endNote, f_endValue, f_sayCount, f_stepCount, f_tooLong, f_latestResult, f_latestKind, a_tokenKind, a_tokenValue, a_tokenSize, a_hasBody, a_expected, a_entryToken, a_entryPhase, a_keptEnding, a_keptNote, a_keptValue, a_variables, a_output⟩ := u
      rcases hn with rfl | rfl <;> (repeat (first | exact h | exact qb_nr0 | exact qb_nr1 | refine br_t (by decide) ?_ | refine br_f (by decide) ?_ | refine br_t hv ?_ | refine br_f hv ?_ | refine br_f hv.1 ?_ | refine br_t hv.2 ?_ | refine br_f hw ?_ | refine And.intro qb_nr0 ?_ | refine And.intro qb_nr1 ?_))
    · rcases hn with rfl | rfl <;> (repeat (first | exact h | exact qb_nr0 | exact qb_nr1 | refine br_t (by decide) ?_ | refine br_f (by decide) ?_ | refine br_t hv ?_ | refine br_f hv ?_ | refine br_f hv.1 ?_ | refine br_t hv.2 ?_ | refine br_f hw ?_ | refine And.intro qb_nr0 ?_ | refine And.intro qb_nr1 ?_))
  · have e : m = 0 ∨ m = 1 ∨ m = 2 ∨ m = 3 ∨ m = 4 ∨ m = 5 := by omega
    refine Or.inl ⟨tk_mk6 hn hm, fun post u h => ?_, fun bad post h => ?_⟩
    · obtain ⟨f_expectedCount, f_draftLength, f_latestPlace, f_entryCount, f_working, f_ending, f_endNote, f_endValue, f_sayCount, f_stepCount, f_tooLong, f_latestResult, f_latestKind, a_tokenKind, a_tokenValue, a_tokenSize, a_hasBody, a_expected, a_entryToken, a_entryPhase, a_keptEnding, a_keptNote, a_keptValue, a_variables, a_output⟩ := u
      have hv : True := trivial
      rcases hn with rfl | rfl <;> rcases e with rfl | rfl | rfl | rfl | rfl | rfl <;> (repeat (first | exact h | exact qb_nr0 | exact qb_nr1 | refine br_t (by decide) ?_ | refine br_f (by decide) ?_ | refine br_t hv ?_ | refine br_f hv ?_ | refine br_f hv.1 ?_ | refine br_t hv.2 ?_ | refine br_f hw ?_ | refine And.intro qb_nr0 ?_ | refine And.intro qb_nr1 ?_))
    · have hv : True := trivial
      rcases hn with rfl | rfl <;> rcases e with rfl | rfl | rfl | rfl | rfl | rfl <;> (repeat (first | exact h | exact qb_nr0 | exact qb_nr1 | refine br_t (by decide) ?_ | refine br_f (by decide) ?_ | refine br_t hv ?_ | refine br_f hv ?_ | refine br_f hv.1 ?_ | refine br_t hv.2 ?_ | refine br_f hw ?_ | refine And.intro qb_nr0 ?_ | refine And.intro qb_nr1 ?_))
theorem tk_say4 {n : Nat} (hn : n = 8 ∨ n = 13 ∨ n = 16 ∨ n = 19 ∨ n = 20) (v : Int32) : tk_say (nI n) v := by
  rcases qb_fun v (n := 4) (by decide) with hv | hv | ⟨m, hm, rfl⟩
  · refine Or.inr ⟨fun post u h => ?_, fun bad post h' h => ?_⟩
    · obtain ⟨f_expectedCount, f_draftLength, f_latestPlace, f_entryCount, f_working, f_ending, f_endNote, f_endValue, f_sayCount, f_stepCount, f_tooLong, f_latestResult, f_latestKind, a_tokenKind, a_tokenValue, a_tokenSize, a_hasBody, a_expected, a_entryToken, a_entryPhase, a_keptEnding, a_keptNote, a_keptValue, a_variables, a_output⟩ := u
      rcases hn with rfl | rfl | rfl | rfl | rfl <;> (repeat (first | exact h | exact qb_nr0 | exact qb_nr1 | refine br_t (by decide) ?_ | refine br_f (by decide) ?_ | refine br_t hv ?_ | refine br_f hv ?_ | refine br_f hv.1 ?_ | refine br_t hv.2 ?_ | refine br_f hw ?_ | refine And.intro qb_nr0 ?_ | refine And.intro qb_nr1 ?_))
    · rcases hn with rfl | rfl | rfl | rfl | rfl <;> (repeat (first | exact h | exact qb_nr0 | exact qb_nr1 | refine br_t (by decide) ?_ | refine br_f (by decide) ?_ | refine br_t hv ?_ | refine br_f hv ?_ | refine br_f hv.1 ?_ | refine br_t hv.2 ?_ | refine br_f hw ?_ | refine And.intro qb_nr0 ?_ | refine And.intro qb_nr1 ?_))
  · have hw : ¬ v < 4 := Int32.not_lt.mpr hv.2
    refine Or.inr ⟨fun post u h => ?_, fun bad post h' h => ?_⟩
    · obtain ⟨f_expectedCount, f_draftLength, f_latestPlace, f_entryCount, f_working, f_ending, f_endNote, f_endValue, f_sayCount, f_stepCount, f_tooLong, f_latestResult, f_latestKind, a_tokenKind, a_tokenValue, a_tokenSize, a_hasBody, a_expected, a_entryToken, a_entryPhase, a_keptEnding, a_keptNote, a_keptValue, a_variables, a_output⟩ := u
      rcases hn with rfl | rfl | rfl | rfl | rfl <;> (repeat (first | exact h | exact qb_nr0 | exact qb_nr1 | refine br_t (by decide) ?_ | refine br_f (by decide) ?_ | refine br_t hv ?_ | refine br_f hv ?_ | refine br_f hv.1 ?_ | refine br_t hv.2 ?_ | refine br_f hw ?_ | refine And.intro qb_nr0 ?_ | refine And.intro qb_nr1 ?_))
    · rcases hn with rfl | rfl | rfl | rfl | rfl <;> (repeat (first | exact h | exact qb_nr0 | exact qb_nr1 | refine br_t (by decide) ?_ | refine br_f (by decide) ?_ | refine br_t hv ?_ | refine br_f hv ?_ | refine br_f hv.1 ?_ | refine br_t hv.2 ?_ | refine br_f hw ?_ | refine And.intro qb_nr0 ?_ | refine And.intro qb_nr1 ?_))
  · have e : m = 0 ∨ m = 1 ∨ m = 2 ∨ m = 3 := by omega
    refine Or.inl ⟨tk_mk4 hn hm, fun post u h => ?_, fun bad post h => ?_⟩
    · obtain ⟨f_expectedCount, f_draftLength, f_latestPlace, f_entryCount, f_working, f_ending, f_endNote, f_endValue, f_sayCount, f_stepCount, f_tooLong, f_latestResult, f_latestKind, a_tokenKind, a_tokenValue, a_tokenSize, a_hasBody, a_expected, a_entryToken, a_entryPhase, a_keptEnding, a_keptNote, a_keptValue, a_variables, a_output⟩ := u
      have hv : True := trivial
      rcases hn with rfl | rfl | rfl | rfl | rfl <;> rcases e with rfl | rfl | rfl | rfl <;> (repeat (first | exact h | exact qb_nr0 | exact qb_nr1 | refine br_t (by decide) ?_ | refine br_f (by decide) ?_ | refine br_t hv ?_ | refine br_f hv ?_ | refine br_f hv.1 ?_ | refine br_t hv.2 ?_ | refine br_f hw ?_ | refine And.intro qb_nr0 ?_ | refine And.intro qb_nr1 ?_))
    · have hv : True := trivial
      rcases hn with rfl | rfl | rfl | rfl | rfl <;> rcases e with rfl | rfl | rfl | rfl <;> (repeat (first | exact h | exact qb_nr0 | exact qb_nr1 | refine br_t (by decide) ?_ | refine br_f (by decide) ?_ | refine br_t hv ?_ | refine br_f hv ?_ | refine br_f hv.1 ?_ | refine br_t hv.2 ?_ | refine br_f hw ?_ | refine And.intro qb_nr0 ?_ | refine And.intro qb_nr1 ?_))
theorem tk_say17 (v : Int32) : tk_say 17 v := by
  have X0 : ¬ (v = 1 ∨ v = 2 ∨ v = 4 ∨ v = 5 ∨ v = 6) → ∀ (post : Int32 → Prop) (u : SX), post 0 → wpX_allows post u 17 v := by
    intro hn post u h
    obtain ⟨f_expectedCount, f_draftLength, f_latestPlace, f_entryCount, f_working, f_ending, f_endNote, f_endValue, f_sayCount, f_stepCount, f_tooLong, f_latestResult, f_latestKind, a_tokenKind, a_tokenValue, a_tokenSize, a_hasBody, a_expected, a_entryToken, a_entryPhase, a_keptEnding, a_keptNote, a_keptValue, a_variables, a_output⟩ := u
    (repeat (first | exact h | refine br_t (by decide) ?_ | refine br_f (by decide) ?_))
    exact br_f (fun e => hn (Or.inl e)) (br_f (fun e => hn (Or.inr (Or.inl e))) (br_f (fun e => hn (Or.inr (Or.inr (Or.inl e)))) (br_f (fun e => hn (Or.inr (Or.inr (Or.inr (Or.inl e))))) (br_f (fun e => hn (Or.inr (Or.inr (Or.inr (Or.inr e))))) h))))
  rcases qb_fun v (n := 7) (by decide) with hv | hv | ⟨m, hm, rfl⟩
  · refine Or.inr ⟨X0 ?_, fun bad post h' h => ?_⟩
    · rintro (rfl | rfl | rfl | rfl | rfl) <;> exact absurd hv (by decide)
    · have hv : v ≤ 0 := Int32.le_of_lt hv
      (repeat (first | exact h | exact qb_nr0 | exact qb_nr1 | refine br_t (by decide) ?_ | refine br_f (by decide) ?_ | refine br_t hv ?_ | refine br_f hv ?_ | refine br_f hv.1 ?_ | refine br_t hv.2 ?_ | refine br_f hw ?_ | refine And.intro qb_nr0 ?_ | refine And.intro qb_nr1 ?_))
  · refine Or.inr ⟨X0 ?_, fun bad post h' h => ?_⟩
    · rintro (rfl | rfl | rfl | rfl | rfl) <;> exact absurd hv.2 (by decide)
    · have hw : ¬ v ≤ 0 := fun z => absurd (Int32.le_trans hv.2 z) (by decide)
      (repeat (first | exact h | exact qb_nr0 | exact qb_nr1 | refine br_t (by decide) ?_ | refine br_f (by decide) ?_ | refine br_t hv ?_ | refine br_f hv ?_ | refine br_f hv.1 ?_ | refine br_t hv.2 ?_ | refine br_f hw ?_ | refine And.intro qb_nr0 ?_ | refine And.intro qb_nr1 ?_))
  · have e : m = 0 ∨ m = 1 ∨ m = 2 ∨ m = 3 ∨ m = 4 ∨ m = 5 ∨ m = 6 := by omega
    rcases e with rfl | rfl | rfl | rfl | rfl | rfl | rfl
    all_goals first
      | exact Or.inl ⟨tk_mk17 (by decide), fun post u h => by obtain ⟨f_expectedCount, f_draftLength, f_latestPlace, f_entryCount, f_working, f_ending, f_endNote, f_endValue, f_sayCount, f_stepCount, f_tooLong, f_latestResult, f_latestKind, a_tokenKind, a_tokenValue, a_tokenSize, a_hasBody, a_expected, a_entryToken, a_entryPhase, a_keptEnding, a_keptNote, a_keptValue, a_variables, a_output⟩ := u; (repeat (first | exact h | refine br_t (by decide) ?_ | refine br_f (by decide) ?_)), fun bad post h => by (repeat (first | exact h | refine br_t (by decide) ?_ | refine br_f (by decide) ?_))⟩
      | exact Or.inr ⟨X0 (by decide), fun bad post h' h => by (repeat (first | exact h | refine br_t (by decide) ?_ | refine br_f (by decide) ?_))⟩
theorem tk_say18 (v : Int32) : tk_say 18 v := by
  rcases qb_fun v (n := 48) (by decide) with hv | hv | ⟨m, hm, rfl⟩
  · refine Or.inr ⟨fun post u h => ?_, fun bad post h' h => ?_⟩
    · obtain ⟨f_expectedCount, f_draftLength, f_latestPlace, f_entryCount, f_working, f_ending, f_endNote, f_endValue, f_sayCount, f_stepCount, f_tooLong, f_latestResult, f_latestKind, a_tokenKind, a_tokenValue, a_tokenSize, a_hasBody, a_expected, a_entryToken, a_entryPhase, a_keptEnding, a_keptNote, a_keptValue, a_variables, a_output⟩ := u
      (repeat (first | exact h | exact qb_nr0 | exact qb_nr1 | refine br_t (by decide) ?_ | refine br_f (by decide) ?_ | refine br_t hv ?_ | refine br_f hv ?_ | refine br_f hv.1 ?_ | refine br_t hv.2 ?_ | refine br_f hw ?_ | refine And.intro qb_nr0 ?_ | refine And.intro qb_nr1 ?_))
    · (repeat (first | exact h | exact qb_nr0 | exact qb_nr1 | refine br_t (by decide) ?_ | refine br_f (by decide) ?_ | refine br_t hv ?_ | refine br_f hv ?_ | refine br_f hv.1 ?_ | refine br_t hv.2 ?_ | refine br_f hw ?_ | refine And.intro qb_nr0 ?_ | refine And.intro qb_nr1 ?_))
  · have hw : ¬ v < 48 := Int32.not_lt.mpr hv.2
    refine Or.inr ⟨fun post u h => ?_, fun bad post h' h => ?_⟩
    · obtain ⟨f_expectedCount, f_draftLength, f_latestPlace, f_entryCount, f_working, f_ending, f_endNote, f_endValue, f_sayCount, f_stepCount, f_tooLong, f_latestResult, f_latestKind, a_tokenKind, a_tokenValue, a_tokenSize, a_hasBody, a_expected, a_entryToken, a_entryPhase, a_keptEnding, a_keptNote, a_keptValue, a_variables, a_output⟩ := u
      (repeat (first | exact h | exact qb_nr0 | exact qb_nr1 | refine br_t (by decide) ?_ | refine br_f (by decide) ?_ | refine br_t hv ?_ | refine br_f hv ?_ | refine br_f hv.1 ?_ | refine br_t hv.2 ?_ | refine br_f hw ?_ | refine And.intro qb_nr0 ?_ | refine And.intro qb_nr1 ?_))
    · (repeat (first | exact h | exact qb_nr0 | exact qb_nr1 | refine br_t (by decide) ?_ | refine br_f (by decide) ?_ | refine br_t hv ?_ | refine br_f hv ?_ | refine br_f hv.1 ?_ | refine br_t hv.2 ?_ | refine br_f hw ?_ | refine And.intro qb_nr0 ?_ | refine And.intro qb_nr1 ?_))
  · have ea : nI m &&& 7 = nI (m % 8) := pk_andN (by omega) 3 (by decide)
    have h1 : ¬ nI m < 0 := nI_pos (by omega)
    have h2 : ¬ (48 : Int32) ≤ nI m := nI_ge (b := 48) hm (by decide)
    have h3 : nI m < 48 := nI_lt (b := 48) hm (by decide)
    by_cases h5 : m % 8 < 5
    · have h6 : ¬ (4 : Int32) < nI m &&& 7 := by rw [ea]; exact nI_nlt (b := m % 8) (a := 4) (by omega) (by decide)
      have h7 : ¬ (5 : Int32) ≤ nI m &&& 7 := by rw [ea]; exact nI_ge (b := 5) h5 (by decide)
      refine Or.inl ⟨tk_mk18 hm h5, fun post u h => ?_, fun bad post h => ?_⟩
      · obtain ⟨f_expectedCount, f_draftLength, f_latestPlace, f_entryCount, f_working, f_ending, f_endNote, f_endValue, f_sayCount, f_stepCount, f_tooLong, f_latestResult, f_latestKind, a_tokenKind, a_tokenValue, a_tokenSize, a_hasBody, a_expected, a_entryToken, a_entryPhase, a_keptEnding, a_keptNote, a_keptValue, a_variables, a_output⟩ := u
        (repeat (first | exact h | refine br_t (by decide) ?_ | refine br_f (by decide) ?_))
        exact br_f h1 (br_f h2 (br_f (by decide) (br_f h6 h)))
      · (repeat (first | exact h | refine br_t (by decide) ?_ | refine br_f (by decide) ?_))
        exact br_f h1 (br_t h3 (br_t rfl (br_f h7 h)))
    · have h6 : (4 : Int32) < nI m &&& 7 := by rw [ea]; exact nI_lt (b := m % 8) (a := 4) (by omega) (by omega)
      have h7 : (5 : Int32) ≤ nI m &&& 7 := by rw [ea]; exact nI_le (a := 5) (by omega) (by omega)
      refine Or.inr ⟨fun post u h => ?_, fun bad post h' h => ?_⟩
      · obtain ⟨f_expectedCount, f_draftLength, f_latestPlace, f_entryCount, f_working, f_ending, f_endNote, f_endValue, f_sayCount, f_stepCount, f_tooLong, f_latestResult, f_latestKind, a_tokenKind, a_tokenValue, a_tokenSize, a_hasBody, a_expected, a_entryToken, a_entryPhase, a_keptEnding, a_keptNote, a_keptValue, a_variables, a_output⟩ := u
        (repeat (first | exact h | refine br_t (by decide) ?_ | refine br_f (by decide) ?_))
        exact br_f h1 (br_f h2 (br_f (by decide) (br_t h6 h)))
      · (repeat (first | exact h | refine br_t (by decide) ?_ | refine br_f (by decide) ?_))
        exact br_f h1 (br_t h3 (br_t rfl (br_t h7 h)))
theorem tk_saya (k v : Int32) : tk_say k v := by
  rcases qb_fun k (n := 22) (by decide) with hk | hk | ⟨n, hn, rfl⟩
  · have a1 : k < 1 := Int32.lt_trans hk (by decide)
    have a2 : ¬ k = 18 := fun e => absurd (e ▸ hk) (by decide)
    have a3 : k < 10 := Int32.lt_trans hk (by decide)
    refine Or.inr ⟨fun post u h => ?_, fun bad post h' h => ?_⟩
    · obtain ⟨f_expectedCount, f_draftLength, f_latestPlace, f_entryCount, f_working, f_ending, f_endNote, f_endValue, f_sayCount, f_stepCount, f_tooLong, f_latestResult, f_latestKind, a_tokenKind, a_tokenValue, a_tokenSize, a_hasBody, a_expected, a_entryToken, a_entryPhase, a_keptEnding, a_keptNote, a_keptValue, a_variables, a_output⟩ := u
      exact br_t a1 (br_f a2 (br_t hk (br_t a3 (br_t rfl h))))
    · exact br_t hk (br_f (by decide) h')
  · have a1 : ¬ k < 1 := fun z => absurd (Int32.lt_of_le_of_lt hk.2 z) (by decide)
    have a2 : (20 : Int32) < k := Int32.lt_of_lt_of_le (by decide) hk.2
    have a3 : ¬ k = 18 := fun e => absurd (e ▸ a2) (by decide)
    have a4 : (8 : Int32) < k := Int32.lt_trans (by decide) a2
    have a5 : ¬ k < 10 := fun z => absurd (Int32.lt_trans a2 z) (by decide)
    have a6 : (21 : Int32) < k := Int32.lt_of_lt_of_le (by decide) hk.2
    have a7 : ¬ k < 22 := Int32.not_lt.mpr hk.2
    refine Or.inr ⟨fun post u h => ?_, fun bad post h' h => ?_⟩
    · obtain ⟨f_expectedCount, f_draftLength, f_latestPlace, f_entryCount, f_working, f_ending, f_endNote, f_endValue, f_sayCount, f_stepCount, f_tooLong, f_latestResult, f_latestKind, a_tokenKind, a_tokenValue, a_tokenSize, a_hasBody, a_expected, a_entryToken, a_entryPhase, a_keptEnding, a_keptNote, a_keptValue, a_variables, a_output⟩ := u
      exact br_f a1 (br_t a2 (br_f a3 (br_f hk.1 (br_t a4 (br_f a5 (br_t a6 (br_t rfl h)))))))
    · exact br_f hk.1 (br_f a7 (br_f (by decide) h'))
  · have e : n = 0 ∨ n = 1 ∨ n = 2 ∨ n = 3 ∨ n = 4 ∨ n = 5 ∨ n = 6 ∨ n = 7 ∨ n = 8 ∨ n = 9 ∨ n = 10 ∨ n = 11 ∨ n = 12 ∨ n = 13 ∨ n = 14 ∨ n = 15 ∨ n = 16 ∨ n = 17 ∨ n = 18 ∨ n = 19 ∨ n = 20 ∨ n = 21 := by omega
    rcases e with rfl | rfl | rfl | rfl | rfl | rfl | rfl | rfl | rfl | rfl | rfl | rfl | rfl | rfl | rfl | rfl | rfl | rfl | rfl | rfl | rfl | rfl
    all_goals first
      | exact Or.inl ⟨tk_mk_free (by decide) (by decide), fun post u h => by obtain ⟨f_expectedCount, f_draftLength, f_latestPlace, f_entryCount, f_working, f_ending, f_endNote, f_endValue, f_sayCount, f_stepCount, f_tooLong, f_latestResult, f_latestKind, a_tokenKind, a_tokenValue, a_tokenSize, a_hasBody, a_expected, a_entryToken, a_entryPhase, a_keptEnding, a_keptNote, a_keptValue, a_variables, a_output⟩ := u; (repeat (first | exact h | refine br_t (by decide) ?_ | refine br_f (by decide) ?_)), fun bad post h => by (repeat (first | exact h | refine br_t (by decide) ?_ | refine br_f (by decide) ?_))⟩
      | exact tk_say6 (by decide) v
      | exact tk_say4 (by decide) v
      | exact tk_say17 v
      | exact tk_say18 v
      | exact Or.inr ⟨fun post u h => by obtain ⟨f_expectedCount, f_draftLength, f_latestPlace, f_entryCount, f_working, f_ending, f_endNote, f_endValue, f_sayCount, f_stepCount, f_tooLong, f_latestResult, f_latestKind, a_tokenKind, a_tokenValue, a_tokenSize, a_hasBody, a_expected, a_entryToken, a_entryPhase, a_keptEnding, a_keptNote, a_keptValue, a_variables, a_output⟩ := u; (repeat (first | exact h | refine br_t (by decide) ?_ | refine br_f (by decide) ?_)), fun bad post h' h => br_f (by decide) (br_t (by decide) (br_t rfl (br_t rfl h')))⟩
end
