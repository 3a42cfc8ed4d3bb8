/-- the part that may begin next -/
def fr_ix (k v : Int32) (p : Nat) : Nat := if k = 12 ∨ k = 13 ∨ k = 8 then (if p ≤ 1 then p else tk_np k v) else if k = 17 then (if p ≤ 1 then p else if p = 2 then 1 + tk_cn v else tk_np k v) else p
/-- what is left to do in a frame -/
def ph_F (K V Z : Nat → Int32) (r i p : Nat) : Nat := 5 * (i + (Z (40 * r + i)).toNatClampNeg - tr_ca (ro Z r) i (fr_ix (K (40 * r + i)) (V (40 * r + i)) p)) + (5 - p)
def ph_S (K V Z : Nat → Int32) : List Fr → Nat
  | [] => 0
  | (r, i, p, _, _, _, _, _, _) :: st => ph_S K V Z st + ph_F K V Z r i p
theorem fr_ix0 (k v : Int32) : fr_ix k v 0 = 0 := by
  unfold fr_ix
  repeat' split
  all_goals first | rfl | omega
theorem fr_ix_le {k v : Int32} {p y c : Nat} (hk : tk_ok k v) (h : fr_ok k v p y c) : fr_ix k v p ≤ tk_np k v := by
  rcases h with ⟨rfl, h⟩ | ⟨rfl, _, h⟩ | ⟨rfl | rfl, _, h, _⟩ | ⟨h1, h2, h3, h4, _, _, h5, _⟩
  · rcases tk_try hk with rfl | rfl | rfl | rfl | rfl <;> rcases h with ⟨rfl, _⟩ | ⟨rfl, _⟩ | ⟨rfl, _⟩ | ⟨rfl, _⟩ <;> decide
  · rcases h with ⟨rfl, _⟩ | ⟨rfl, _⟩ | ⟨rfl, _⟩
    · exact Nat.zero_le _
    · show 1 ≤ 3; omega
    · exact Nat.le_refl _
  · have : p = 0 ∨ p = 1 ∨ p = 2 := by omega
    rcases this with rfl | rfl | rfl
    · exact Nat.zero_le _
    · show 1 ≤ 2; omega
    · exact Nat.le_refl _
  · have : p = 0 ∨ p = 1 ∨ p = 2 := by omega
    rcases this with rfl | rfl | rfl
    · exact Nat.zero_le _
    · exact Nat.le_refl _
    · exact Nat.le_refl _
  · unfold fr_ix
    rw [if_neg (by rintro (h | h | h); exact h2 h; exact h3 h; exact h4 h), if_neg h1]
    exact h5
section
variable {K V Z U B : Nat → Int32} {LN : Nat → Nat}
theorem ph_0 {r j s : Nat} (hs : (Z (40 * r + j)).toNatClampNeg = s) (h1 : 1 ≤ s) : ph_F K V Z r j 0 = 5 * s := by
  unfold ph_F
  rw [fr_ix0, hs]
  show 5 * (j + s - (j + 1)) + 5 = _
  omega
theorem ph_push (P : pg_T K V Z U B LN) {r i : Nat} (hr : r < 4) (hi : i < LN r) {p p' o j s : Nat} (hs : (Z (40 * r + j)).toNatClampNeg = s) (h1 : 1 ≤ s) (ho : o < tk_np (K (40 * r + i)) (V (40 * r + i))) (h2 : fr_ix (K (40 * r + i)) (V (40 * r + i)) p ≤ o) (h3 : o + 1 ≤ fr_ix (K (40 * r + i)) (V (40 * r + i)) p') (h4 : fr_ix (K (40 * r + i)) (V (40 * r + i)) p' ≤ tk_np (K (40 * r + i)) (V (40 * r + i))) (hp : p < p') (hp' : p' ≤ 5) (hj : tr_ca (ro Z r) i o ≤ j) (hjs : j + s ≤ tr_ca (ro Z r) i (o + 1)) : ph_F K V Z r j 0 + ph_F K V Z r i p' < ph_F K V Z r i p := by
  have T := P r hr (by omega)
  obtain ⟨z, z1, z2, z3, z4, z5⟩ := tr_sz T hi
  have a1 := tr_ca_le T hi h2 (Nat.le_of_lt ho)
  have a2 := tr_ca_le T hi h3 h4
  have a3 := tr_ca_le T hi h4 (Nat.le_refl _)
  have z5' : (Z (40 * r + i)).toNatClampNeg = z := z5
  have z4' : tr_ca (ro Z r) i (tk_np (K (40 * r + i)) (V (40 * r + i))) = i + z := z4
  have a3' : tr_ca (ro Z r) i (fr_ix (K (40 * r + i)) (V (40 * r + i)) p') ≤ tr_ca (ro Z r) i (tk_np (K (40 * r + i)) (V (40 * r + i))) := a3
  rw [ph_0 hs h1]
  unfold ph_F
  rw [z5']
  omega
theorem ph_part (P : pg_T K V Z U B LN) {r i : Nat} (hr : r < 4) (hi : i < LN r) {p p' o : Nat} (ho : o < tk_np (K (40 * r + i)) (V (40 * r + i))) (h2 : fr_ix (K (40 * r + i)) (V (40 * r + i)) p ≤ o) (h3 : o + 1 ≤ fr_ix (K (40 * r + i)) (V (40 * r + i)) p') (h4 : fr_ix (K (40 * r + i)) (V (40 * r + i)) p' ≤ tk_np (K (40 * r + i)) (V (40 * r + i))) (hp : p < p') (hp' : p' ≤ 5) : ph_F K V Z r (tr_ca (ro Z r) i o) 0 + ph_F K V Z r i p' < ph_F K V Z r i p := by
  have T := P r hr (by omega)
  obtain ⟨s, s1, s2, s3, s4, s5⟩ := tr_ca_s T hi ho
  exact ph_push P hr hi s5 s2 ho h2 h3 h4 hp hp' (Nat.le_refl _) (by rw [s4]; exact Nat.le_refl _)
/-- however much a frame has to do, it is at most this -/
theorem ph_F_le (P : pg_T K V Z U B LN) {r i : Nat} (hr : r < 4) (hi : i < LN r) (p : Nat) : ph_F K V Z r i p ≤ 200 := by
  have T := P r hr (by omega)
  obtain ⟨z, z1, z2, z3, z4, z5⟩ := tr_sz T hi
  have z5' : (Z (40 * r + i)).toNatClampNeg = z := z5
  have hL := T.2.1
  have := tr_ca_ge (z := ro Z r) (i := i) (fr_ix (K (40 * r + i)) (V (40 * r + i)) p)
  unfold ph_F
  rw [z5']
  omega
theorem ph_F_pos {r i p : Nat} (hp : p ≤ 3) : 2 ≤ ph_F K V Z r i p := by
  unfold ph_F
  omega
/-- a loop's next turn: condition and statement again, for a step -/
theorem ph_again (P : pg_T K V Z U B LN) {r i : Nat} (hr : r < 4) (hi : i < LN r) (hk : K (40 * r + i) = 13) (p : Nat) : ph_F K V Z r (tr_ca (ro Z r) i 0) 0 + ph_F K V Z r i 1 ≤ 199 := by
  have T := P r hr (by omega)
  have hn : tk_np (K (40 * r + i)) (V (40 * r + i)) = 2 := by rw [hk]; rfl
  have h1 : fr_ix (K (40 * r + i)) (V (40 * r + i)) 1 = 1 := by rw [hk]; rfl
  have := ph_part P hr hi (p := 0) (p' := 1) (o := 0) (by omega) (by rw [fr_ix0]; exact Nat.le_refl _) (by omega) (by omega) (by omega) (by omega)
  have := ph_F_le P hr hi 0
  omega
end
