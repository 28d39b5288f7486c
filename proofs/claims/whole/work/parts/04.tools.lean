/-! steps of a walk by pure facts -/
def ff_B (b : Bool) : Int32 := if b then 1 else 0
theorem ff_Bz {b : Bool} {A B : Prop} (f : b = false → A) (t : b = true → B) : (ff_B b = 0 → A) ∧ (¬ ff_B b = 0 → B) := by
  cases b with
  | false => exact ⟨fun _ => f rfl, fun h => absurd rfl h⟩
  | true => exact ⟨fun h => absurd h (by decide), fun _ => t rfl⟩
theorem ff_Fz {f : Nat → Int32} {x : Int32} {A B : Prop} (j : Nat) (fl : ff_b f j = false → A) (tr : ff_b f j = true → B) (hx : x = nI j := by rfl) (hj : j < 2 ^ 31 := by omega) : (f x.toNatClampNeg = 0 → A) ∧ (¬ f x.toNatClampNeg = 0 → B) := by
  subst hx
  rw [nI_clamp hj]
  refine ⟨fun h => fl ?_, fun h => tr ?_⟩
  · unfold ff_b; rw [decide_eq_true h]; rfl
  · unfold ff_b; rw [decide_eq_false h]; rfl
theorem ff_lt1 {v : Int32} {a : Nat} (ha : a + 1 < 2 ^ 31) : v < nI (a + 1) ↔ v ≤ nI a := by
  rw [Int32.lt_iff_toInt_lt, Int32.le_iff_toInt_le, nI_toInt ha, nI_toInt (by omega)]; omega
theorem ff_nlt {v w : Int32} : ¬ v < w ↔ w ≤ v := Int32.not_lt
theorem ff_nle {v w : Int32} : ¬ v ≤ w ↔ w < v := Int32.not_le
/-- a length, or not -/
theorem ff_ixN (v : Int32) (N : Nat) (hN : N + 1 < 2 ^ 31) : (v < 0 ∨ (¬ v < 0 ∧ nI N < v)) ∨ ∃ j : Nat, j ≤ N ∧ v = nI j := by
  rcases pk_ix v (n := N + 1) hN with h | h | ⟨j, hj, e⟩
  · exact Or.inl (Or.inl h)
  · have h1 : nI N < v := Int32.lt_of_lt_of_le (nI_lt (Nat.lt_succ_self N) hN) h
    have h2 : ¬ v < 0 := ff_nlt.mpr (Int32.le_trans (nI_pos' hN) h)
    exact Or.inl (Or.inr ⟨h2, h1⟩)
  · exact Or.inr ⟨j, by omega, e⟩
/-- a code below P, or not -/
theorem ff_ixC (v : Int32) (P : Nat) (hP : P < 2 ^ 31) : (v < 0 ∨ (¬ v < 0 ∧ nI P ≤ v)) ∨ ∃ c : Nat, c < P ∧ v = nI c := by
  rcases pk_ix v (n := P) hP with h | h | ⟨j, hj, e⟩
  · exact Or.inl (Or.inl h)
  · exact Or.inl (Or.inr ⟨ff_nlt.mpr (Int32.le_trans (nI_pos' hP) h), h⟩)
  · exact Or.inr ⟨j, hj, e⟩
/-- v is no piece's number -/
def ff_np (v : Int32) : Prop := ∀ i, i < 4 → (v < nI (3 ^ (i + 1)) ∨ (¬ v < nI (3 ^ (i + 1)) ∧ nI (2 * 3 ^ (i + 1)) ≤ v))
theorem ff_np4 {v : Int32} (h0 : v < nI 3 ∨ (¬ v < nI 3 ∧ nI 6 ≤ v)) (h1 : v < nI 9 ∨ (¬ v < nI 9 ∧ nI 18 ≤ v)) (h2 : v < nI 27 ∨ (¬ v < nI 27 ∧ nI 54 ≤ v)) (h3 : v < nI 81 ∨ (¬ v < nI 81 ∧ nI 162 ≤ v)) : ff_np v := by
  intro i hi
  match i, hi with
  | 0, _ => exact h0
  | 1, _ => exact h1
  | 2, _ => exact h2
  | 3, _ => exact h3
theorem ff_npN {p a b : Nat} (hp : p < 2 ^ 31) (ha : a < 2 ^ 31) (hb : b < 2 ^ 31) (h : p < a ∨ b ≤ p) : nI p < nI a ∨ (¬ nI p < nI a ∧ nI b ≤ nI p) := by
  rcases Nat.lt_or_ge p a with h1 | h1
  · exact Or.inl (nI_lt h1 ha)
  · exact Or.inr ⟨nI_nlt h1 hp, nI_le (by omega) hp⟩
theorem ff_npL {v : Int32} (h : v < 0) {a : Nat} (ha : a < 2 ^ 31) {Q : Prop} : v < nI a ∨ Q := Or.inl (Int32.lt_of_lt_of_le h (nI_pos' ha))
theorem ff_npH {v : Int32} (h : nI 162 ≤ v) {a b : Nat} (ha : a ≤ 162) (hb : b ≤ 162) : v < nI a ∨ (¬ v < nI a ∧ nI b ≤ v) :=
  Or.inr ⟨ff_nlt.mpr (Int32.le_trans (nI_le ha (by decide)) h), Int32.le_trans (nI_le hb (by decide)) h⟩
theorem ff_piece (v : Int32) : ff_np v ∨ ∃ k q : Nat, 1 ≤ k ∧ k ≤ 4 ∧ q < 3 ^ k ∧ v = nI (3 ^ k + q) := by
  rcases pk_ix v (n := 162) (by decide) with h | h | ⟨p, hp, rfl⟩
  · exact Or.inl (ff_np4 (ff_npL h (by decide)) (ff_npL h (by decide)) (ff_npL h (by decide)) (ff_npL h (by decide)))
  · exact Or.inl (ff_np4 (ff_npH h (by decide) (by decide)) (ff_npH h (by decide) (by decide)) (ff_npH h (by decide) (by decide)) (ff_npH h (by decide) (by decide)))
  · by_cases a1 : 3 ≤ p ∧ p < 6
    · exact Or.inr ⟨1, p - 3, by omega, by omega, by show p - 3 < 3; omega, congrArg nI (by show p = 3 + (p - 3); omega)⟩
    by_cases a2 : 9 ≤ p ∧ p < 18
    · exact Or.inr ⟨2, p - 9, by omega, by omega, by show p - 9 < 9; omega, congrArg nI (by show p = 9 + (p - 9); omega)⟩
    by_cases a3 : 27 ≤ p ∧ p < 54
    · exact Or.inr ⟨3, p - 27, by omega, by omega, by show p - 27 < 27; omega, congrArg nI (by show p = 27 + (p - 27); omega)⟩
    by_cases a4 : 81 ≤ p ∧ p < 162
    · exact Or.inr ⟨4, p - 81, by omega, by omega, by show p - 81 < 81; omega, congrArg nI (by show p = 81 + (p - 81); omega)⟩
    exact Or.inl (ff_np4 (ff_npN (by omega) (by decide) (by decide) (by omega)) (ff_npN (by omega) (by decide) (by decide) (by omega)) (ff_npN (by omega) (by decide) (by decide) (by omega)) (ff_npN (by omega) (by decide) (by decide) (by omega)))
/-- the same by the reference's comparisons -/
theorem ff_npY {v : Int32} (h : ff_np v) : (v ≤ 2 ∨ (¬ v ≤ 2 ∧ (6 : Int32) ≤ v)) ∧ (v ≤ 8 ∨ (¬ v ≤ 8 ∧ (18 : Int32) ≤ v)) ∧ (v ≤ 26 ∨ (¬ v ≤ 26 ∧ (54 : Int32) ≤ v)) ∧ (v ≤ 80 ∨ (¬ v ≤ 80 ∧ (162 : Int32) ≤ v)) := by
  have g : ∀ a b : Nat, a + 1 < 2 ^ 31 → (v < nI (a + 1) ∨ (¬ v < nI (a + 1) ∧ nI b ≤ v)) → (v ≤ nI a ∨ (¬ v ≤ nI a ∧ nI b ≤ v)) := by
    intro a b ha hh
    rw [ff_lt1 ha] at hh
    exact hh
  exact ⟨g 2 6 (by decide) (h 0 (by decide)), g 8 18 (by decide) (h 1 (by decide)), g 26 54 (by decide) (h 2 (by decide)), g 80 162 (by decide) (h 3 (by decide))⟩
/-- endsForbidden's loop: m lengths are left, the last one seen is i -/
def ff_efr (f : Nat → Int32) (w : Nat) : Nat → Nat → Bool
  | 0, _ => false
  | m + 1, i => (decide (3 ^ (i + 1) ≤ w) && ff_b f (3 ^ (i + 1) + w % 3 ^ (i + 1))) || ff_efr f w m (i + 1)
theorem ff_efr_4 (f : Nat → Int32) (w : Nat) : ff_efr f w 4 0 = ff_ef f w := by
  show ((decide (3 ≤ w) && ff_b f (3 + w % 3)) || ((decide (9 ≤ w) && ff_b f (9 + w % 9)) || ((decide (27 ≤ w) && ff_b f (27 + w % 27)) || ((decide (81 ≤ w) && ff_b f (81 + w % 81)) || false)))) = _
  rw [Bool.or_false]
  rfl
