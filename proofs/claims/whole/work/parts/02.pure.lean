/-! own sums over the naturals -/
def ff_sm (g : Nat → Nat) : Nat → Nat
  | 0 => 0
  | n + 1 => ff_sm g n + g n
theorem ff_sm_c {g h : Nat → Nat} : ∀ {n : Nat}, (∀ i, i < n → g i = h i) → ff_sm g n = ff_sm h n := by
  intro n
  induction n with
  | zero => intro _; rfl
  | succ n ih =>
    intro H
    show ff_sm g n + g n = ff_sm h n + h n
    rw [ih (fun i hi => H i (by omega)), H n (by omega)]
theorem ff_sm_a (g h : Nat → Nat) : ∀ n : Nat, ff_sm (fun i => g i + h i) n = ff_sm g n + ff_sm h n := by
  intro n
  induction n with
  | zero => rfl
  | succ n ih =>
    show ff_sm (fun i => g i + h i) n + (g n + h n) = (ff_sm g n + g n) + (ff_sm h n + h n)
    rw [ih]; omega
theorem ff_sm_z {g : Nat → Nat} {n : Nat} (H : ∀ i, i < n → g i = 0) : ff_sm g n = 0 := by
  induction n with
  | zero => rfl
  | succ n ih =>
    show ff_sm g n + g n = 0
    rw [ih (fun i hi => H i (by omega)), H n (by omega)]
theorem ff_sm_m (g : Nat → Nat) (k : Nat) : ∀ n : Nat, ff_sm (fun i => k * g i) n = k * ff_sm g n := by
  intro n
  induction n with
  | zero => rfl
  | succ n ih =>
    show ff_sm (fun i => k * g i) n + k * g n = k * (ff_sm g n + g n)
    rw [ih, Nat.mul_add]
theorem ff_sm_w (g : Nat → Nat → Nat) (m : Nat) : ∀ n : Nat, ff_sm (fun i => ff_sm (g i) m) n = ff_sm (fun j => ff_sm (fun i => g i j) n) m := by
  intro n
  induction n with
  | zero => exact (ff_sm_z (fun _ _ => rfl)).symm
  | succ n ih =>
    show ff_sm (fun i => ff_sm (g i) m) n + ff_sm (g n) m = _
    rw [ih, ← ff_sm_a]
    rfl
theorem ff_sm_s (g : Nat → Nat) (a : Nat) : ∀ b : Nat, ff_sm g (a + b) = ff_sm g a + ff_sm (fun i => g (a + i)) b := by
  intro b
  induction b with
  | zero => rfl
  | succ b ih =>
    show ff_sm g (a + b) + g (a + b) = ff_sm g a + (ff_sm (fun i => g (a + i)) b + g (a + b))
    rw [ih]; omega
theorem ff_sm_3 (g : Nat → Nat) : ∀ n : Nat, ff_sm g (3 * n) = ff_sm (fun i => ff_sm (fun c => g (3 * i + c)) 3) n := by
  intro n
  induction n with
  | zero => rfl
  | succ n ih =>
    show ff_sm g (3 * n + 3) = ff_sm (fun i => ff_sm (fun c => g (3 * i + c)) 3) n + ff_sm (fun c => g (3 * n + c)) 3
    rw [ff_sm_s, ih]
theorem ff_sm_1 {n t : Nat} (g : Nat → Nat) (ht : t < n) (H : ∀ i, i < n → i ≠ t → g i = 0) : ff_sm g n = g t := by
  obtain ⟨d, rfl⟩ : ∃ d, n = t + 1 + d := ⟨n - (t + 1), by omega⟩
  rw [ff_sm_s, ff_sm_z (g := fun i => g (t + 1 + i)) (fun i hi => H _ (by omega) (by omega))]
  show ff_sm g t + g t + 0 = g t
  rw [ff_sm_z (g := g) (fun i hi => H i (by omega) (by omega))]; omega
theorem ff_sm_le {g h : Nat → Nat} : ∀ {n : Nat}, (∀ i, i < n → g i ≤ h i) → ff_sm g n ≤ ff_sm h n := by
  intro n
  induction n with
  | zero => intro _; exact Nat.le_refl _
  | succ n ih =>
    intro H
    exact Nat.add_le_add (ih (fun i hi => H i (by omega))) (H n (by omega))
theorem ff_sm_b {g : Nat → Nat} : ∀ {n : Nat}, (∀ i, i < n → g i ≤ 1) → ff_sm g n ≤ n := by
  intro n
  induction n with
  | zero => intro _; exact Nat.le_refl _
  | succ n ih =>
    intro H
    exact Nat.add_le_add (ih (fun i hi => H i (by omega))) (H n (by omega))
theorem ff_sm_t {g : Nat → Nat} : ∀ {n i : Nat}, i < n → g i ≤ ff_sm g n := by
  intro n
  induction n with
  | zero => intro i hi; omega
  | succ n ih =>
    intro i hi
    show g i ≤ ff_sm g n + g n
    rcases Nat.lt_or_ge i n with h | h
    · have := ih h; omega
    · have : i = n := by omega
      subst this; omega
/-- a sum by classes -/
theorem ff_sm_cl (a h : Nat → Nat) (l : Nat → Nat) (T n : Nat) (H : ∀ i, i < n → l i < T) : ff_sm (fun i => a i * h (l i)) n = ff_sm (fun t => h t * ff_sm (fun i => if l i = t then a i else 0) n) T := by
  have e : ∀ t, h t * ff_sm (fun i => if l i = t then a i else 0) n = ff_sm (fun i => h t * (if l i = t then a i else 0)) n := fun t => (ff_sm_m _ _ _).symm
  rw [ff_sm_c (fun t _ => e t), ff_sm_w]
  refine ff_sm_c fun i hi => ?_
  rw [ff_sm_1 (t := l i) (fun t => h t * (if l i = t then a i else 0)) (H i hi) (fun t _ ht => by
    show h t * (if l i = t then a i else 0) = 0
    rw [if_neg (fun e => ht e.symm), Nat.mul_zero])]
  show a i * h (l i) = h (l i) * (if l i = l i then a i else 0)
  rw [if_pos rfl, Nat.mul_comm]

/-! words: a word of length n and code c has the number 3 ^ n + c -/
def ff_b (f : Nat → Int32) (j : Nat) : Bool := !decide (f j = 0)
def ff_ef (f : Nat → Int32) (w : Nat) : Bool :=
  (decide (3 ≤ w) && ff_b f (3 + w % 3)) || ((decide (9 ≤ w) && ff_b f (9 + w % 9)) || ((decide (27 ≤ w) && ff_b f (27 + w % 27)) || (decide (81 ≤ w) && ff_b f (81 + w % 81))))
def ff_ok (f : Nat → Int32) : Nat → Nat → Bool
  | 0, _ => true
  | n + 1, w => !ff_ef f w && ff_ok f n (w / 3)
def ff_l3 (w : Nat) : Nat := if w < 54 then w else 27 + w % 27
def ff_i (b : Bool) : Nat := if b then 1 else 0
theorem ff_ef_l (f : Nat → Int32) (w c : Nat) (hc : c < 3) : ff_ef f (3 * ff_l3 w + c) = ff_ef f (3 * w + c) := by
  unfold ff_l3
  by_cases h : w < 54
  · rw [if_pos h]
  · rw [if_neg h]
    unfold ff_ef
    have e1 : (3 * (27 + w % 27) + c) % 3 = (3 * w + c) % 3 := by omega
    have e2 : (3 * (27 + w % 27) + c) % 9 = (3 * w + c) % 9 := by omega
    have e3 : (3 * (27 + w % 27) + c) % 27 = (3 * w + c) % 27 := by omega
    have e4 : (3 * (27 + w % 27) + c) % 81 = (3 * w + c) % 81 := by omega
    rw [e1, e2, e3, e4]
    have d : ∀ b, b ≤ 81 → decide (b ≤ 3 * (27 + w % 27) + c) = decide (b ≤ 3 * w + c) := fun b hb => by
      rw [decide_eq_true (by omega), decide_eq_true (by omega)]
    rw [d 3 (by omega), d 9 (by omega), d 27 (by omega), d 81 (by omega)]
theorem ff_l3_l (w c : Nat) (hc : c < 3) : ff_l3 (3 * ff_l3 w + c) = ff_l3 (3 * w + c) := by
  unfold ff_l3
  by_cases h : w < 54
  · rw [if_pos h]
  · rw [if_neg h, if_neg (by omega), if_neg (by omega)]; omega
theorem ff_l3_lt (w : Nat) : ff_l3 w < 54 := by unfold ff_l3; split <;> omega
/-- the table by tails -/
def ff_cn (f : Nat → Int32) (n t : Nat) : Nat := ff_sm (fun c => if ff_l3 (3 ^ n + c) = t then ff_i (ff_ok f n (3 ^ n + c)) else 0) (3 ^ n)
def ff_tot (f : Nat → Int32) (n : Nat) : Nat := ff_sm (fun c => ff_i (ff_ok f n (3 ^ n + c))) (3 ^ n)
/-- how many letters lead from tail t to tail t' -/
def ff_h (f : Nat → Int32) (t' t : Nat) : Nat := ff_sm (fun c => if ff_l3 (3 * t + c) = t' then ff_i (!ff_ef f (3 * t + c)) else 0) 3
theorem ff_cn_s (f : Nat → Int32) (n t' : Nat) : ff_cn f (n + 1) t' = ff_sm (fun t => ff_h f t' t * ff_cn f n t) 54 := by
  unfold ff_cn
  rw [← ff_sm_cl (fun c => ff_i (ff_ok f n (3 ^ n + c))) (fun t => ff_h f t' t) (fun c => ff_l3 (3 ^ n + c)) 54 (3 ^ n) (fun _ _ => ff_l3_lt _)]
  have e : 3 ^ (n + 1) = 3 * 3 ^ n := by rw [Nat.pow_succ]; omega
  rw [e, ff_sm_3]
  refine ff_sm_c fun w _ => ?_
  show _ = ff_i (ff_ok f n (3 ^ n + w)) * ff_h f t' (ff_l3 (3 ^ n + w))
  unfold ff_h
  rw [← ff_sm_m]
  refine ff_sm_c fun c hc => ?_
  have e2 : 3 * 3 ^ n + (3 * w + c) = 3 * (3 ^ n + w) + c := by omega
  rw [e2, ff_l3_l _ _ hc, ff_ef_l _ _ _ hc]
  have e3 : ff_ok f (n + 1) (3 * (3 ^ n + w) + c) = (!ff_ef f (3 * (3 ^ n + w) + c) && ff_ok f n (3 ^ n + w)) := by
    show (!ff_ef f (3 * (3 ^ n + w) + c) && ff_ok f n ((3 * (3 ^ n + w) + c) / 3)) = _
    have : (3 * (3 ^ n + w) + c) / 3 = 3 ^ n + w := by omega
    rw [this]
  rw [e3]
  by_cases h : ff_l3 (3 * (3 ^ n + w) + c) = t'
  · rw [if_pos h, if_pos h]
    cases ff_ef f (3 * (3 ^ n + w) + c) <;> cases ff_ok f n (3 ^ n + w) <;> rfl
  · rw [if_neg h, if_neg h, Nat.mul_zero]
theorem ff_cn_0 (f : Nat → Int32) (t : Nat) : ff_cn f 0 t = if t = 1 then 1 else 0 := by
  show 0 + (if ff_l3 (3 ^ 0 + 0) = t then ff_i (ff_ok f 0 (3 ^ 0 + 0)) else 0) = _
  have e : ff_l3 (3 ^ 0 + 0) = 1 := by decide
  rw [e]
  by_cases h : t = 1
  · subst h; rfl
  · rw [if_neg (fun e => h e.symm), if_neg h]
theorem ff_l3_pos {w : Nat} (h : 0 < w) : 0 < ff_l3 w := by unfold ff_l3; split <;> omega
theorem ff_p3 (n : Nat) : 0 < 3 ^ n := Nat.pow_pos (by omega)
theorem ff_cn_t0 (f : Nat → Int32) (n : Nat) : ff_cn f n 0 = 0 := by
  refine ff_sm_z fun c _ => ?_
  have := ff_l3_pos (w := 3 ^ n + c) (by have := ff_p3 n; omega)
  rw [if_neg (by omega)]
theorem ff_tot_cn (f : Nat → Int32) (n : Nat) : ff_sm (ff_cn f n) 54 = ff_tot f n := by
  have h := ff_sm_cl (fun c => ff_i (ff_ok f n (3 ^ n + c))) (fun _ => 1) (fun c => ff_l3 (3 ^ n + c)) 54 (3 ^ n) (fun _ _ => ff_l3_lt _)
  unfold ff_tot
  refine Eq.trans (ff_sm_c fun t _ => ?_) (h.symm.trans (ff_sm_c fun c _ => Nat.mul_one _))
  exact (Nat.one_mul _).symm
theorem ff_i_le (b : Bool) : ff_i b ≤ 1 := by cases b <;> decide
theorem ff_tot_le (f : Nat → Int32) (n : Nat) : ff_tot f n ≤ 3 ^ n := ff_sm_b fun _ _ => ff_i_le _
theorem ff_cn_le (f : Nat → Int32) (n t : Nat) : ff_cn f n t ≤ 3 ^ n := by
  refine ff_sm_b fun c _ => ?_
  split
  · exact ff_i_le _
  · exact Nat.zero_le _
theorem ff_pow_lt {n : Nat} (h : n ≤ 30) : 3 ^ n < 2 ^ 63 :=
  Nat.lt_of_le_of_lt (Nat.pow_le_pow_right (by omega) h) (by decide)
/-- for words of three letters and more no tail is shorter -/
theorem ff_cn_lo (f : Nat → Int32) {n t : Nat} (hn : 3 ≤ n) (ht : t < 27) : ff_cn f n t = 0 := by
  refine ff_sm_z fun c _ => ?_
  have h3 : 3 ^ 3 ≤ 3 ^ n := Nat.pow_le_pow_right (by omega) hn
  have h3 : 27 ≤ 3 ^ n := h3
  have : 27 ≤ ff_l3 (3 ^ n + c) := by unfold ff_l3; split <;> omega
  rw [if_neg (by omega)]
/-- an allowed word's last three letters are allowed -/
theorem ff_ok_l3 (f : Nat → Int32) {n w : Nat} (hn : 3 ≤ n) (hw : 27 ≤ w) (h : ff_ok f n w = true) : ff_ok f 3 (ff_l3 w) = true := by
  obtain ⟨m, rfl⟩ : ∃ m, n = m + 3 := ⟨n - 3, by omega⟩
  have el : ff_l3 w = 27 + w % 27 := by unfold ff_l3; split <;> omega
  rw [el]
  have h' : (!ff_ef f w && (!ff_ef f (w / 3) && (!ff_ef f (w / 3 / 3) && ff_ok f m (w / 3 / 3 / 3)))) = true := h
  show (!ff_ef f (27 + w % 27) && (!ff_ef f ((27 + w % 27) / 3) && (!ff_ef f ((27 + w % 27) / 3 / 3) && true))) = true
  simp only [Bool.and_eq_true, Bool.not_eq_true', Bool.and_true] at h' ⊢
  obtain ⟨h1, h2, h3, _⟩ := h'
  unfold ff_ef at h1 h2 h3 ⊢
  simp only [Bool.or_eq_false_iff, Bool.and_eq_false_iff, decide_eq_false_iff_not] at h1 h2 h3 ⊢
  have a1 : (27 + w % 27) % 3 = w % 3 := by omega
  have a2 : (27 + w % 27) % 9 = w % 9 := by omega
  have a3 : (27 + w % 27) % 27 = w % 27 := by omega
  have b1 : (27 + w % 27) / 3 % 3 = w / 3 % 3 := by omega
  have b2 : (27 + w % 27) / 3 % 9 = w / 3 % 9 := by omega
  have c1 : (27 + w % 27) / 3 / 3 % 3 = w / 3 / 3 % 3 := by omega
  rw [a1, a2, a3, b1, b2, c1]
  obtain ⟨p1, p2, p3, _⟩ := h1
  obtain ⟨q1, q2, _, _⟩ := h2
  obtain ⟨r1, _, _, _⟩ := h3
  refine ⟨⟨Or.inr (p1.resolve_left (by omega)), Or.inr (p2.resolve_left (by omega)), Or.inr (p3.resolve_left (by omega)), Or.inl (by omega)⟩,
    ⟨Or.inr (q1.resolve_left (by omega)), Or.inr (q2.resolve_left (by omega)), Or.inl (by omega), Or.inl (by omega)⟩,
    ⟨Or.inr (r1.resolve_left (by omega)), Or.inl (by omega), Or.inl (by omega), Or.inl (by omega)⟩⟩
theorem ff_cn_ok (f : Nat → Int32) {n k : Nat} (hn : 3 ≤ n) (h : ff_ok f 3 (27 + k) = false) : ff_cn f n (27 + k) = 0 := by
  refine ff_sm_z fun c _ => ?_
  have h3 : 3 ^ 3 ≤ 3 ^ n := Nat.pow_le_pow_right (by omega) hn
  have h3 : 27 ≤ 3 ^ n := h3
  by_cases e : ff_l3 (3 ^ n + c) = 27 + k
  · rw [if_pos e]
    cases hk : ff_ok f n (3 ^ n + c) with
    | false => rfl
    | true =>
      have := ff_ok_l3 f hn (by omega) hk
      rw [e, h] at this
      exact absurd this (by decide)
  · rw [if_neg e]
/-- the other table: tails of just three letters, a letter taken where the four letters are allowed -/
def ff_hy (f : Nat → Int32) (j k : Nat) : Nat := ff_sm (fun c => if (3 * k + c) % 27 = j then ff_i (ff_ok f 4 (81 + (3 * k + c))) else 0) 3
theorem ff_cn_y (f : Nat → Int32) {n j : Nat} (hn : 3 ≤ n) (hj : j < 27) : ff_cn f (n + 1) (27 + j) = ff_sm (fun k => ff_hy f j k * ff_cn f n (27 + k)) 27 := by
  rw [ff_cn_s]
  show ff_sm _ (27 + 27) = _
  rw [ff_sm_s, ff_sm_z (fun t ht => by rw [ff_cn_lo f hn ht, Nat.mul_zero]), Nat.zero_add]
  refine ff_sm_c fun k hk => ?_
  cases ho : ff_ok f 3 (27 + k) with
  | false => rw [ff_cn_ok f hn ho, Nat.mul_zero, Nat.mul_zero]
  | true =>
    congr 1
    unfold ff_h ff_hy
    refine ff_sm_c fun c hc => ?_
    have e1 : 3 * (27 + k) + c = 81 + (3 * k + c) := by omega
    have e2 : ff_l3 (81 + (3 * k + c)) = 27 + (3 * k + c) % 27 := by
      unfold ff_l3; rw [if_neg (by omega)]; omega
    have e3 : ff_ok f 4 (81 + (3 * k + c)) = !ff_ef f (81 + (3 * k + c)) := by
      show (!ff_ef f (81 + (3 * k + c)) && ff_ok f 3 ((81 + (3 * k + c)) / 3)) = _
      have : (81 + (3 * k + c)) / 3 = 27 + k := by omega
      rw [this, ho, Bool.and_true]
    rw [e1, e2, e3]
    by_cases h : (3 * k + c) % 27 = j
    · rw [if_pos h, if_pos (by omega)]
    · rw [if_neg h, if_neg (by omega)]
theorem ff_cn_3 (f : Nat → Int32) {k : Nat} (hk : k < 27) : ff_cn f 3 (27 + k) = ff_i (ff_ok f 3 (27 + k)) := by
  have e : ∀ c, c < 27 → ff_l3 (27 + c) = 27 + c := fun c hc => by unfold ff_l3; rw [if_pos (by omega)]
  show ff_sm (fun c => if ff_l3 (27 + c) = 27 + k then ff_i (ff_ok f 3 (27 + c)) else 0) 27 = _
  rw [ff_sm_1 _ hk (fun c hc hne => by
    show (if ff_l3 (27 + c) = 27 + k then ff_i (ff_ok f 3 (27 + c)) else 0) = 0
    rw [e c hc, if_neg (by omega)])]
  show (if ff_l3 (27 + k) = 27 + k then ff_i (ff_ok f 3 (27 + k)) else 0) = _
  rw [e k hk, if_pos rfl]
theorem ff_tot_y (f : Nat → Int32) {n : Nat} (hn : 3 ≤ n) : ff_sm (fun k => ff_cn f n (27 + k)) 27 = ff_tot f n := by
  rw [← ff_tot_cn]
  show _ = ff_sm (ff_cn f n) (27 + 27)
  rw [ff_sm_s, ff_sm_z (fun t ht => ff_cn_lo f hn ht), Nat.zero_add]
