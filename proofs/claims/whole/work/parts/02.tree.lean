/-- where part o of token i begins: behind the token, part by part -/
def tr_ca (z : Nat → Int32) (i : Nat) : Nat → Nat
  | 0 => i + 1
  | o + 1 => tr_ca z i o + (z (tr_ca z i o)).toNatClampNeg
/-- token i is a loop with this label -/
def tr_m (k v : Nat → Int32) (lab : Int32) (i : Nat) : Prop := k i = 13 ∧ v i = lab
/-- up from i, itself included, the first loop with this label is t -/
def tr_nl (k v u : Nat → Int32) (lab : Int32) : Nat → Nat → Nat → Prop
  | 0, _, _ => False
  | n + 1, i, t => (tr_m k v lab i ∧ t = i) ∨ (¬ tr_m k v lab i ∧ ∃ p, u i = nI p ∧ p < i ∧ tr_nl k v u lab n p t)
def tr_NL (k v u : Nat → Int32) (lab : Int32) (i t : Nat) : Prop := ∃ n, tr_nl k v u lab n i t
theorem tr_NL_u {k v u : Nat → Int32} {lab : Int32} {i t : Nat} (h : tr_NL k v u lab i t) : (tr_m k v lab i ∧ t = i) ∨ (¬ tr_m k v lab i ∧ ∃ p, u i = nI p ∧ p < i ∧ tr_NL k v u lab p t) := by
  obtain ⟨n, h⟩ := h
  cases n with
  | zero => exact h.elim
  | succ n =>
    rcases h with h | ⟨hm, p, e, hp, h⟩
    · exact Or.inl h
    · exact Or.inr ⟨hm, p, e, hp, n, h⟩
theorem tr_NL_m {k v u : Nat → Int32} {lab : Int32} {i : Nat} (h : tr_m k v lab i) : tr_NL k v u lab i i := ⟨1, Or.inl ⟨h, rfl⟩⟩
theorem tr_NL_p {k v u : Nat → Int32} {lab : Int32} {i p t : Nat} (hm : ¬ tr_m k v lab i) (e : u i = nI p) (hp : p < i) (h : tr_NL k v u lab p t) : tr_NL k v u lab i t := by
  obtain ⟨n, h⟩ := h
  exact ⟨n + 1, Or.inr ⟨hm, p, e, hp, h⟩⟩
theorem tr_nl_le {k v u : Nat → Int32} {lab : Int32} : ∀ n i t, tr_nl k v u lab n i t → t ≤ i ∧ tr_m k v lab t := by
  intro n
  induction n with
  | zero => intro i t h; exact h.elim
  | succ n ih =>
    intro i t h
    rcases h with ⟨h, rfl⟩ | ⟨_, p, _, hp, h⟩
    · exact ⟨Nat.le_refl _, h⟩
    · have := ih p t h
      exact ⟨by omega, this.2⟩
theorem tr_NL_le {k v u : Nat → Int32} {lab : Int32} {i t : Nat} (h : tr_NL k v u lab i t) : t ≤ i ∧ tr_m k v lab t := by
  obtain ⟨n, h⟩ := h
  exact tr_nl_le n i t h
/-- up from i to its parent p -/
theorem tr_NL_up {k v u : Nat → Int32} {lab : Int32} {i p t : Nat} (hm : ¬ tr_m k v lab i) (h : tr_NL k v u lab i t) (e : u i = nI p) (hi : i < 2 ^ 31) (hp : p < 2 ^ 31) : tr_NL k v u lab p t := by
  rcases tr_NL_u h with ⟨hm', _⟩ | ⟨_, q, eq, hq, h⟩
  · exact (hm hm').elim
  · have : q = p := (nI_eq (by omega) hp).mp (eq.symm.trans e)
    exact this ▸ h
theorem tr_nl_congr {k v u k' v' u' : Nat → Int32} {lab : Int32} {L : Nat} (hk : ∀ i, i < L → k' i = k i) (hv : ∀ i, i < L → v' i = v i) (hu : ∀ i, i < L → ∀ p, p < L → u i = nI p → u' i = nI p) : ∀ n i t, i < L → tr_nl k v u lab n i t → tr_nl k' v' u' lab n i t := by
  intro n
  induction n with
  | zero => intro i t _ h; exact h
  | succ n ih =>
    intro i t hi h
    have e : tr_m k' v' lab i ↔ tr_m k v lab i := by unfold tr_m; rw [hk i hi, hv i hi]
    rcases h with ⟨h, rfl⟩ | ⟨hm, p, eu, hp, h⟩
    · exact Or.inl ⟨e.mpr h, rfl⟩
    · exact Or.inr ⟨fun z => hm (e.mp z), p, hu i hi p (by omega) eu, hp, ih p t (by omega) h⟩
theorem tr_NL_congr {k v u k' v' u' : Nat → Int32} {lab : Int32} {L : Nat} (hk : ∀ i, i < L → k' i = k i) (hv : ∀ i, i < L → v' i = v i) (hu : ∀ i, i < L → ∀ p, p < L → u i = nI p → u' i = nI p) {i t : Nat} (hi : i < L) (h : tr_NL k v u lab i t) : tr_NL k' v' u' lab i t := by
  obtain ⟨n, h⟩ := h
  exact ⟨n, tr_nl_congr hk hv hu n i t hi h⟩
/-- token i of a good body of L tokens -/
def tr_N (L : Nat) (k v z u bl : Nat → Int32) (i : Nat) : Prop :=
  tk_ok (k i) (v i) ∧ (∃ s, z i = nI s ∧ 1 ≤ s ∧ i + s ≤ L ∧ tr_ca z i (tk_np (k i) (v i)) = i + s) ∧
  (∀ o, o < tk_np (k i) (v i) → tr_ca z i o < L ∧ bl (4 * i + o) = nI (tr_ca z i o) ∧ u (tr_ca z i o) = nI i ∧ tk_so (k (tr_ca z i o)) = tk_wt (k i) (v i) o) ∧
  ((k i = 19 ∨ k i = 20) → ∃ p t, u i = nI p ∧ p < i ∧ tr_NL k v u (v i) p t)
/-- a good body of L tokens -/
def tr_T (L : Nat) (k v z u bl : Nat → Int32) : Prop :=
  1 ≤ L ∧ L ≤ 40 ∧ tk_so (k 0) = 1 ∧ ∀ i, i < L → tr_N L k v z u bl i
theorem tr_ca_congr {z z' : Nat → Int32} {L : Nat} (hz : ∀ i, i < L → z' i = z i) (i : Nat) : ∀ o, (∀ o', o' < o → tr_ca z i o' < L) → tr_ca z' i o = tr_ca z i o := by
  intro o
  induction o with
  | zero => intro _; rfl
  | succ o ih =>
    intro h
    show tr_ca z' i o + _ = tr_ca z i o + _
    rw [ih (fun o' ho => h o' (by omega)), hz _ (h o (by omega))]
theorem tr_T_congr {L : Nat} {k v z u bl k' v' z' u' bl' : Nat → Int32} (hk : ∀ i, i < L → k' i = k i) (hv : ∀ i, i < L → v' i = v i) (hz : ∀ i, i < L → z' i = z i) (hu : ∀ i, i < L → ∀ p, p < L → u i = nI p → u' i = nI p) (hb : ∀ j, j < 4 * L → ∀ c, c < L → bl j = nI c → bl' j = nI c) (h : tr_T L k v z u bl) : tr_T L k' v' z' u' bl' := by
  obtain ⟨h1, h2, h3, h4⟩ := h
  refine ⟨h1, h2, by rw [hk 0 (by omega)]; exact h3, fun i hi => ?_⟩
  obtain ⟨a, ⟨s, es, s1, s2, s3⟩, b, c⟩ := h4 i hi
  have ec : ∀ o, o ≤ tk_np (k i) (v i) → tr_ca z' i o = tr_ca z i o := fun o ho => tr_ca_congr hz i o (fun o' ho' => (b o' (by omega)).1)
  unfold tr_N
  rw [hk i hi, hv i hi]
  refine ⟨a, ⟨s, (hz i hi).trans es, s1, s2, (ec _ (Nat.le_refl _)).trans s3⟩, fun o ho => ?_, fun z => ?_⟩
  · have hn := tk_np_le a
    obtain ⟨b1, b2, b3, b4⟩ := b o ho
    rw [ec o (by omega)]
    exact ⟨b1, hb _ (by omega) _ b1 b2, hu _ b1 _ hi b3, by rw [hk _ b1]; exact b4⟩
  · obtain ⟨p, t, e, hp, hn⟩ := c z
    exact ⟨p, t, hu i hi p (by omega) e, hp, tr_NL_congr hk hv hu (by omega) hn⟩
section
variable {L : Nat} {k v z u bl : Nat → Int32}
theorem tr_sz (h : tr_T L k v z u bl) {i : Nat} (hi : i < L) : ∃ s, z i = nI s ∧ 1 ≤ s ∧ i + s ≤ L ∧ tr_ca z i (tk_np (k i) (v i)) = i + s ∧ (z i).toNatClampNeg = s := by
  obtain ⟨s, e, a, b, c⟩ := (h.2.2.2 i hi).2.1
  exact ⟨s, e, a, b, c, by rw [e]; exact nI_clamp (by have := h.2.1; omega)⟩
theorem tr_ca_s (h : tr_T L k v z u bl) {i : Nat} (hi : i < L) {o : Nat} (ho : o < tk_np (k i) (v i)) : ∃ s, z (tr_ca z i o) = nI s ∧ 1 ≤ s ∧ tr_ca z i o + s ≤ L ∧ tr_ca z i (o + 1) = tr_ca z i o + s ∧ (z (tr_ca z i o)).toNatClampNeg = s := by
  obtain ⟨s, e, a, b, c, d⟩ := tr_sz h ((h.2.2.2 i hi).2.2.1 o ho).1
  exact ⟨s, e, a, b, by show _ + _ = _; rw [d], d⟩
theorem tr_ca_lt (h : tr_T L k v z u bl) {i : Nat} (hi : i < L) {o o' : Nat} (hoo : o < o') (ho : o' ≤ tk_np (k i) (v i)) : tr_ca z i o < tr_ca z i o' := by
  induction o' with
  | zero => omega
  | succ m ih =>
    obtain ⟨s, _, s1, _, e, _⟩ := tr_ca_s h hi (o := m) (by omega)
    rw [e]
    by_cases hm : o = m
    · subst hm; omega
    · have := ih (by omega) (by omega); omega
theorem tr_ca_le (h : tr_T L k v z u bl) {i : Nat} (hi : i < L) {o o' : Nat} (hoo : o ≤ o') (ho : o' ≤ tk_np (k i) (v i)) : tr_ca z i o ≤ tr_ca z i o' := by
  by_cases e : o = o'
  · subst e; exact Nat.le_refl _
  · exact Nat.le_of_lt (tr_ca_lt h hi (by omega) ho)
theorem tr_ca_gt (h : tr_T L k v z u bl) {i : Nat} (hi : i < L) {o : Nat} (ho : o ≤ tk_np (k i) (v i)) : i < tr_ca z i o := by
  have := tr_ca_le h hi (Nat.zero_le o) ho
  have e : tr_ca z i 0 = i + 1 := rfl
  omega
end
