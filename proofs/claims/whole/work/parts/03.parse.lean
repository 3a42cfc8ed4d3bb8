/-- the codes of n parts of token i, from part o on -/
def ps_ch (i : Nat) : Nat → Nat → List Nat
  | _, 0 => []
  | o, n + 1 => (4 * i + o) :: ps_ch i (o + 1) n
/-- the places that are still wanting ahead of token i; 4000 is the root's -/
def ps_st (k v : Nat → Int32) : Nat → List Nat
  | 0 => [4000]
  | i + 1 => ps_ch i 0 (tk_np (k i) (v i)) ++ (ps_st k v i).tail
def ps_wn (k v : Nat → Int32) (x : Nat) : Nat := if x = 4000 then 1 else tk_wt (k (x / 4)) (v (x / 4)) (x % 4)
/-- the first i tokens fit -/
def ps_ok (k v : Nat → Int32) (i : Nat) : Prop := ∀ j, j < i → ∃ x xs, ps_st k v j = x :: xs ∧ tk_so (k j) = ps_wn k v x
def ps_nd : List Nat → Prop
  | [] => True
  | x :: xs => ¬ x ∈ xs ∧ ps_nd xs
theorem ps_ch_mem {i x : Nat} : ∀ n o, x ∈ ps_ch i o n → ∃ q, o ≤ q ∧ q < o + n ∧ x = 4 * i + q := by
  intro n
  induction n with
  | zero => intro o h; cases h
  | succ n ih =>
    intro o h
    rcases List.mem_cons.mp h with e | h
    · exact ⟨o, by omega, by omega, e⟩
    · obtain ⟨q, a, b, c⟩ := ih (o + 1) h
      exact ⟨q, by omega, by omega, c⟩
theorem ps_ch_len {i : Nat} : ∀ n o, (ps_ch i o n).length = n := by
  intro n
  induction n with
  | zero => intro o; rfl
  | succ n ih => intro o; show _ + 1 = _; rw [ih]
theorem ps_nd_ch {i : Nat} {l : List Nat} (hl : ps_nd l) (hm : ∀ y, y ∈ l → y < 4 * i ∨ 4 * i + 4 ≤ y) : ∀ n o, o + n ≤ 4 → ps_nd (ps_ch i o n ++ l) := by
  intro n
  induction n with
  | zero => intro o _; exact hl
  | succ n ih =>
    intro o h
    refine ⟨fun z => ?_, ih (o + 1) (by omega)⟩
    rcases List.mem_append.mp z with z | z
    · obtain ⟨q, a, b, c⟩ := ps_ch_mem n (o + 1) z
      omega
    · have := hm _ z
      omega
section
variable {k v : Nat → Int32} {L : Nat}
theorem ps_mem (i : Nat) : ∀ x, x ∈ ps_st k v i → x = 4000 ∨ ∃ p o, x = 4 * p + o ∧ p < i ∧ o < tk_np (k p) (v p) := by
  induction i with
  | zero => intro x h; exact Or.inl (List.mem_singleton.mp h)
  | succ i ih =>
    intro x h
    rcases List.mem_append.mp h with h | h
    · obtain ⟨q, a, b, c⟩ := ps_ch_mem _ _ h
      exact Or.inr ⟨i, q, c, by omega, by omega⟩
    · rcases ih x (List.mem_of_mem_tail h) with e | ⟨p, o, a, b, c⟩
      · exact Or.inl e
      · exact Or.inr ⟨p, o, a, by omega, c⟩
theorem ps_nd_tl {l : List Nat} (h : ps_nd l) : ps_nd l.tail := by
  cases l with
  | nil => trivial
  | cons x xs => exact h.2
theorem ps_lt (H : ∀ i, i < L → tk_ok (k i) (v i)) (i : Nat) (hi : i ≤ L) (x : Nat) (h : x ∈ ps_st k v i) : x = 4000 ∨ x < 4 * i := by
  rcases ps_mem i x h with e | ⟨p, o, a, b, c⟩
  · exact Or.inl e
  · have := tk_np_le (H p (by omega))
    exact Or.inr (by omega)
theorem ps_nodup (H : ∀ i, i < L → tk_ok (k i) (v i)) (hL : L ≤ 40) : ∀ i, i ≤ L → ps_nd (ps_st k v i) := by
  intro i
  induction i with
  | zero => intro _; exact ⟨fun z => (List.not_mem_nil z), trivial⟩
  | succ i ih =>
    intro hi
    refine ps_nd_ch (ps_nd_tl (ih (by omega))) (fun y hy => ?_) _ _ (by have := tk_np_le (H i (by omega)); omega)
    rcases ps_lt H i (by omega) y (List.mem_of_mem_tail hy) with e | e <;> omega
/-- what was taken off never comes again -/
theorem ps_gone (H : ∀ i, i < L → tk_ok (k i) (v i)) (hL : L ≤ 40) {j x : Nat} {xs : List Nat} (e : ps_st k v j = x :: xs) : ∀ i, j < i → i ≤ L → ¬ x ∈ ps_st k v i := by
  intro i
  induction i with
  | zero => intro h; omega
  | succ i ih =>
    intro h hi z
    have hx := ps_lt H j (by omega) x (by rw [e]; exact List.mem_cons_self ..)
    rcases List.mem_append.mp z with z | z
    · obtain ⟨q, a, b, c⟩ := ps_ch_mem _ _ z
      have := tk_np_le (H i (by omega))
      omega
    · by_cases hj : i = j
      · subst hj
        have hn := ps_nodup H hL i (by omega)
        rw [e] at z hn
        exact hn.1 z
      · exact ih (by omega) (by omega) (List.mem_of_mem_tail z)
theorem ps_once (H : ∀ i, i < L → tk_ok (k i) (v i)) (hL : L ≤ 40) {i j x : Nat} {xs ys : List Nat} (hi : i ≤ L) (hj : j ≤ L) (e : ps_st k v j = x :: xs) (e' : ps_st k v i = x :: ys) : i = j := by
  rcases Nat.lt_trichotomy i j with h | h | h
  · exact (ps_gone H hL e' j h hj (by rw [e]; exact List.mem_cons_self ..)).elim
  · exact h
  · exact (ps_gone H hL e i h hi (by rw [e']; exact List.mem_cons_self ..)).elim
theorem ps_len (H : ∀ i, i < L → tk_ok (k i) (v i)) : ∀ i, i ≤ L → ps_ok k v i → (ps_st k v i).length ≤ 1 + 3 * i := by
  intro i
  induction i with
  | zero => intro _ _; exact Nat.le_refl _
  | succ i ih =>
    intro hi hne
    have a := ih (by omega) (fun j hj => hne j (by omega))
    have b := tk_np_le (H i (by omega))
    obtain ⟨x, xs, e, _⟩ := hne i (by omega)
    show (ps_ch i 0 _ ++ (ps_st k v i).tail).length ≤ _
    rw [List.length_append, ps_ch_len, List.length_tail]
    rw [e] at a ⊢
    have : (x :: xs).length = xs.length + 1 := rfl
    omega
/-- token j's size is told right -/
def ps_gd (L : Nat) (k v z : Nat → Int32) (j : Nat) : Prop := ∃ s, 1 ≤ s ∧ j + s ≤ L ∧ z j = nI s ∧ ps_st k v (j + s) = (ps_st k v j).tail ∧ tr_ca z j (tk_np (k j) (v j)) = j + s
theorem ps_child (hL : L ≤ 40) (hE : ps_st k v L = []) {z : Nat → Int32} {i : Nat} (hi : i < L) (G : ∀ j, i < j → j < L → ps_gd L k v z j) : ∀ o, o ≤ tk_np (k i) (v i) → i < tr_ca z i o ∧ tr_ca z i o ≤ L ∧ ps_st k v (tr_ca z i o) = ps_ch i o (tk_np (k i) (v i) - o) ++ (ps_st k v i).tail ∧ (o < tk_np (k i) (v i) → tr_ca z i o < L) := by
  intro o
  induction o with
  | zero =>
    intro _
    have e : ps_st k v (i + 1) = ps_ch i 0 (tk_np (k i) (v i)) ++ (ps_st k v i).tail := rfl
    refine ⟨Nat.lt_succ_self i, hi, e, fun h => ?_⟩
    show i + 1 < L
    by_cases hh : i + 1 = L
    · rw [hh, hE] at e
      generalize tk_np (k i) (v i) = n at *
      cases n with
      | zero => omega
      | succ n => cases e
    · omega
  | succ o ih =>
    intro ho
    obtain ⟨a0, a, b, c⟩ := ih (by omega)
    have hlt := c (by omega)
    obtain ⟨s, s1, s2, s3, s4, s5⟩ := G _ a0 hlt
    have ec : tr_ca z i (o + 1) = tr_ca z i o + s := by
      show _ + _ = _
      rw [s3, nI_clamp (by omega)]
    obtain ⟨m, em⟩ : ∃ m, tk_np (k i) (v i) - o = m + 1 := ⟨tk_np (k i) (v i) - o - 1, by omega⟩
    have e2 : ps_st k v (tr_ca z i o + s) = ps_ch i (o + 1) (tk_np (k i) (v i) - (o + 1)) ++ (ps_st k v i).tail := by
      rw [s4, b, em, show tk_np (k i) (v i) - (o + 1) = m from by omega]
      rfl
    rw [ec]
    refine ⟨by omega, s2, e2, fun h => ?_⟩
    by_cases hh : tr_ca z i o + s = L
    · rw [hh, hE] at e2
      obtain ⟨m, em⟩ : ∃ m, tk_np (k i) (v i) - (o + 1) = m + 1 := ⟨tk_np (k i) (v i) - (o + 1) - 1, by omega⟩
      rw [em] at e2
      cases e2
    · omega
/-- a token's size, told by the sizes behind it -/
theorem ps_gd_new (hL : L ≤ 40) (hE : ps_st k v L = []) {z : Nat → Int32} {i : Nat} (hi : i < L) (G : ∀ j, i < j → j < L → ps_gd L k v z j) (hz : z i = nI (tr_ca z i (tk_np (k i) (v i)) - i)) : ps_gd L k v z i := by
  obtain ⟨a, b, c, _⟩ := ps_child hL hE hi G _ (Nat.le_refl _)
  refine ⟨tr_ca z i (tk_np (k i) (v i)) - i, by omega, by omega, hz, ?_, by omega⟩
  rw [show i + (tr_ca z i (tk_np (k i) (v i)) - i) = tr_ca z i (tk_np (k i) (v i)) from by omega, c, Nat.sub_self]
  rfl
/-- what Y's parse has written of token j -/
def ps_y (k v u bl : Nat → Int32) (j : Nat) : Prop := ∀ x xs, ps_st k v j = x :: xs → (x = 4000 → u j = -1) ∧ (x ≠ 4000 → u j = nI (x / 4) ∧ bl x = nI j)
variable {z u bl : Nat → Int32}
theorem ps_hd (H : ∀ i, i < L → tk_ok (k i) (v i)) (hL : L ≤ 40) (hE : ps_st k v L = []) (G : ∀ j, j < L → ps_gd L k v z j) {i o : Nat} (hi : i < L) (ho : o < tk_np (k i) (v i)) : tr_ca z i o < L ∧ ∃ xs, ps_st k v (tr_ca z i o) = (4 * i + o) :: xs := by
  obtain ⟨a0, a, b, c⟩ := ps_child hL hE hi (fun j _ hj => G j hj) o (by omega)
  refine ⟨c ho, ?_⟩
  obtain ⟨m, em⟩ : ∃ m, tk_np (k i) (v i) - o = m + 1 := ⟨tk_np (k i) (v i) - o - 1, by omega⟩
  rw [b, em]
  exact ⟨_, rfl⟩
/-- each token but the first is a part of its parent -/
theorem ps_par (H : ∀ i, i < L → tk_ok (k i) (v i)) (hL : L ≤ 40) (hE : ps_st k v L = []) (hok : ps_ok k v L) (G : ∀ j, j < L → ps_gd L k v z j) (hy : ∀ j, j < L → ps_y k v u bl j) {i : Nat} (h0 : 0 < i) (hi : i < L) : ∃ p o, p < i ∧ o < tk_np (k p) (v p) ∧ i = tr_ca z p o ∧ u i = nI p := by
  obtain ⟨x, xs, e, _⟩ := hok i hi
  rcases ps_mem i x (by rw [e]; exact List.mem_cons_self ..) with rfl | ⟨p, o, rfl, hp, ho⟩
  · have := ps_once H hL (j := 0) (i := i) (x := 4000) (xs := []) (by omega) (by omega) rfl e
    omega
  · have hn := tk_np_le (H p (by omega))
    obtain ⟨a, ys, e'⟩ := ps_hd H hL hE G (by omega) ho
    have := ps_once H hL (by omega) (by omega) e' e
    refine ⟨p, o, hp, ho, this, ?_⟩
    have := ((hy i hi) _ _ e).2 (by omega)
    rw [this.1]
    exact congrArg nI (by omega)
theorem ps_s (G : ∀ j, j < L → ps_gd L k v z j) (hL : L ≤ 40) {j : Nat} (hj : j < L) : tr_ca z j (tk_np (k j) (v j)) = j + (z j).toNatClampNeg ∧ 1 ≤ (z j).toNatClampNeg ∧ j + (z j).toNatClampNeg ≤ L := by
  obtain ⟨s, s1, s2, s3, s4, s5⟩ := G j hj
  rw [s3, nI_clamp (by omega)]
  exact ⟨s5, s1, s2⟩
theorem ps_mono (hL : L ≤ 40) (hE : ps_st k v L = []) (G : ∀ j, j < L → ps_gd L k v z j) {i : Nat} (hi : i < L) : ∀ o', o' ≤ tk_np (k i) (v i) → ∀ o, o ≤ o' → tr_ca z i o ≤ tr_ca z i o' := by
  intro o'
  induction o' with
  | zero => intro _ o ho; rw [show o = 0 from by omega]; exact Nat.le_refl _
  | succ m ih =>
    intro hm o ho
    by_cases e : o = m + 1
    · subst e; exact Nat.le_refl _
    · have := ih (by omega) o (by omega)
      show _ ≤ _ + _
      omega
/-- i lies in one of the parts of j -/
theorem ps_find (hL : L ≤ 40) (hE : ps_st k v L = []) (G : ∀ j, j < L → ps_gd L k v z j) {i j : Nat} (hj : j < L) (h1 : j < i) : ∀ n, n ≤ tk_np (k j) (v j) → i < tr_ca z j n → ∃ o, o < n ∧ tr_ca z j o ≤ i ∧ i < tr_ca z j (o + 1) := by
  intro n
  induction n with
  | zero => intro _ h; have : tr_ca z j 0 = j + 1 := rfl; omega
  | succ n ih =>
    intro hn h
    by_cases hh : i < tr_ca z j n
    · obtain ⟨o, a, b⟩ := ih (by omega) hh
      exact ⟨o, by omega, b⟩
    · exact ⟨n, by omega, by omega, h⟩
/-- n + 1 times up from i is j -/
def ps_R (u : Nat → Int32) : Nat → Nat → Nat → Prop
  | 0, i, j => i = j
  | n + 1, i, j => ∃ q, u i = nI q ∧ q < i ∧ ps_R u n q j
theorem ps_R_app {u : Nat → Int32} {j c : Nat} (e : u c = nI j) (h : j < c) : ∀ n i, ps_R u n i c → ps_R u (n + 1) i j := by
  intro n
  induction n with
  | zero => intro i hr; cases hr; exact ⟨j, e, h, rfl⟩
  | succ n ih =>
    intro i hr
    obtain ⟨q, a, b, c⟩ := hr
    exact ⟨q, a, b, ih q c⟩
theorem ps_in (H : ∀ i, i < L → tk_ok (k i) (v i)) (hL : L ≤ 40) (hE : ps_st k v L = []) (G : ∀ j, j < L → ps_gd L k v z j) (hy : ∀ j, j < L → ps_y k v u bl j) : ∀ d i j, i - j ≤ d → j < i → i < L → i < j + (z j).toNatClampNeg → ∃ n, ps_R u (n + 1) i j := by
  intro d
  induction d with
  | zero => intro i j h h1; omega
  | succ d ih =>
    intro i j hd h1 hi h2
    have hs := ps_s G hL (show j < L from by omega)
    obtain ⟨o, ho, a, b⟩ := ps_find hL hE G (by omega) h1 _ (Nat.le_refl _) (by omega)
    obtain ⟨c1, ys, e'⟩ := ps_hd H hL hE G (by omega) ho
    have hn := tk_np_le (H j (by omega))
    have eu : u (tr_ca z j o) = nI j := by
      have := ((hy _ c1) _ _ e').2 (by omega)
      rw [this.1]
      exact congrArg nI (by omega)
    have hgt := (ps_child (i := j) hL hE (by omega) (fun j _ hj => G j hj) o (by omega)).1
    by_cases hh : tr_ca z j o = i
    · exact ⟨0, j, by rw [← hh]; exact eu, h1, rfl⟩
    · obtain ⟨n, hr⟩ := ih i (tr_ca z j o) (by omega) (by omega) hi b
      exact ⟨n + 1, ps_R_app eu hgt (n + 1) i hr⟩
theorem ps_R_NL {lab : Int32} {j : Nat} (hm : tr_m k v lab j) : ∀ n p, ps_R u n p j → ∃ t, tr_NL k v u lab p t := by
  intro n
  induction n with
  | zero => intro p h; cases h; exact ⟨_, tr_NL_m hm⟩
  | succ n ih =>
    intro p h
    obtain ⟨q, a, b, c⟩ := h
    by_cases hp : tr_m k v lab p
    · exact ⟨p, tr_NL_m hp⟩
    · obtain ⟨t, ht⟩ := ih q c
      exact ⟨t, tr_NL_p hp a b ht⟩
theorem ps_chain (H : ∀ i, i < L → tk_ok (k i) (v i)) (hL : L ≤ 40) (hE : ps_st k v L = []) (hok : ps_ok k v L) (G : ∀ j, j < L → ps_gd L k v z j) (hy : ∀ j, j < L → ps_y k v u bl j) {lab : Int32} : ∀ n p t, p < L → tr_nl k v u lab n p t → t ≤ p ∧ p + (z p).toNatClampNeg ≤ t + (z t).toNatClampNeg ∧ tr_m k v lab t := by
  intro n
  induction n with
  | zero => intro p t _ h; exact h.elim
  | succ n ih =>
    intro p t hp h
    rcases h with ⟨hm, rfl⟩ | ⟨_, q, eq, hq, h⟩
    · exact ⟨Nat.le_refl _, Nat.le_refl _, hm⟩
    · obtain ⟨a, b, c⟩ := ih q t (by omega) h
      obtain ⟨q', o, hq', ho, e1, e2⟩ := ps_par H hL hE hok G hy (show 0 < p from by omega) hp
      have : q = q' := (nI_eq (by omega) (by omega)).mp (eq.symm.trans e2)
      subst this
      have hs := ps_s G hL (show q < L from by omega)
      have hm := ps_mono hL hE G (show q < L from by omega) _ (Nat.le_refl _) (o + 1) (by omega)
      have e3 : tr_ca z q (o + 1) = tr_ca z q o + (z (tr_ca z q o)).toNatClampNeg := rfl
      rw [← e1] at e3
      exact ⟨by omega, by omega, c⟩
/-- X's look over the intervals and Y's way up say the same -/
theorem ps_bound (H : ∀ i, i < L → tk_ok (k i) (v i)) (hL : L ≤ 40) (hE : ps_st k v L = []) (hok : ps_ok k v L) (G : ∀ j, j < L → ps_gd L k v z j) (hy : ∀ j, j < L → ps_y k v u bl j) {lab : Int32} {i : Nat} (hi : i < L) : (∃ j, j < i ∧ i < j + (z j).toNatClampNeg ∧ tr_m k v lab j) ↔ ∃ p t, u i = nI p ∧ p < i ∧ tr_NL k v u lab p t := by
  constructor
  · rintro ⟨j, h1, h2, hm⟩
    obtain ⟨n, p, a, b, c⟩ := ps_in H hL hE G hy (i - j) i j (Nat.le_refl _) h1 hi h2
    obtain ⟨t, ht⟩ := ps_R_NL hm n p c
    exact ⟨p, t, a, b, ht⟩
  · rintro ⟨p, t, e, hp, n, hn⟩
    obtain ⟨a, b, c⟩ := ps_chain H hL hE hok G hy n p t (by omega) hn
    obtain ⟨q', o, hq', ho, e1, e2⟩ := ps_par H hL hE hok G hy (show 0 < i from by omega) hi
    have : p = q' := (nI_eq (by omega) (by omega)).mp (e.symm.trans e2)
    subst this
    have hs := ps_s G hL (show p < L from by omega)
    have hm := ps_mono hL hE G (show p < L from by omega) _ (Nat.le_refl _) (o + 1) (by omega)
    have e3 : tr_ca z p (o + 1) = tr_ca z p o + (z (tr_ca z p o)).toNatClampNeg := rfl
    rw [← e1] at e3
    have hs2 := ps_s G hL hi
    exact ⟨t, by omega, by omega, c⟩
/-- the body that was parsed, measured and found bound is good -/
theorem ps_T (H : ∀ i, i < L → tk_ok (k i) (v i)) (hL1 : 1 ≤ L) (hL : L ≤ 40) (hE : ps_st k v L = []) (hok : ps_ok k v L) (G : ∀ j, j < L → ps_gd L k v z j) (hy : ∀ j, j < L → ps_y k v u bl j) (hb : ∀ i, i < L → (k i = 19 ∨ k i = 20) → ∃ p t, u i = nI p ∧ p < i ∧ tr_NL k v u (v i) p t) : tr_T L k v z u bl := by
  refine ⟨hL1, hL, ?_, fun i hi => ⟨H i hi, ?_, fun o ho => ?_, hb i hi⟩⟩
  · obtain ⟨x, xs, e, e2⟩ := hok 0 (by omega)
    have : x = 4000 := (List.cons.inj e).1.symm
    subst this
    rw [e2]
    rfl
  · obtain ⟨s, s1, s2, s3, s4, s5⟩ := G i hi
    exact ⟨s, s3, s1, s2, s5⟩
  · obtain ⟨c1, ys, e'⟩ := ps_hd H hL hE G hi ho
    have hn := tk_np_le (H i hi)
    have h1 := ((hy _ c1) _ _ e').2 (by omega)
    obtain ⟨x, xs, e, e2⟩ := hok _ c1
    have : x = 4 * i + o := (List.cons.inj (e.symm.trans e')).1
    subst this
    refine ⟨c1, h1.2, ?_, ?_⟩
    · rw [h1.1]; exact congrArg nI (by omega)
    · rw [e2]
      unfold ps_wn
      rw [if_neg (by omega), show (4 * i + o) / 4 = i from by omega, show (4 * i + o) % 4 = o from by omega]
end
