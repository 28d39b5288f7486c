section
theorem pk_us {f : Nat → Int32} {k : Nat} {x : Int32} : upd f k x k = x := if_pos rfl
theorem pk_un {f : Nat → Int32} {k j : Nat} {x : Int32} (h : j ≠ k) : upd f k x j = f j := if_neg h
theorem pk_uLs {f : Nat → Int64} {k : Nat} {x : Int64} : vp_updL f k x k = x := if_pos rfl
theorem pk_uLn {f : Nat → Int64} {k j : Nat} {x : Int64} (h : j ≠ k) : vp_updL f k x j = f j := if_neg h
theorem pk_sub {a b : Nat} (h : b ≤ a) : nI a - nI b = nI (a - b) := by
  obtain ⟨c, rfl⟩ : ∃ c, a = c + b := ⟨a - b, by omega⟩
  rw [← nI_add, Int32.add_sub_cancel, Nat.add_sub_cancel]
theorem pk_m1 (n : Nat) : nI (n + 1) + (-1) = nI n := by
  rw [← nI_1, Int32.add_assoc, show (1 : Int32) + (-1) = 0 from rfl, Int32.add_zero]
theorem pk_mul (a b : Nat) : nI a * nI b = nI (a * b) := (Int32.ofNat_mul a b).symm
theorem pk_div {a d : Nat} (ha : a < 2 ^ 31) (h0 : 0 < d) (hd : d < 2 ^ 31) : nI a / nI d = nI (a / d) := by
  apply Int32.toInt_inj.mp
  rw [lg_idiv_nonneg (by rw [nI_toInt ha]; omega) (by rw [nI_toInt hd]; omega), nI_toInt ha, nI_toInt hd, nI_toInt (Nat.lt_of_le_of_lt (Nat.div_le_self a d) ha)]
  first | rfl | exact (Int.natCast_ediv _ _).symm
theorem pk_rem {a d : Nat} (ha : a < 2 ^ 31) (h0 : 0 < d) (hd : d < 2 ^ 31) : nI a - nI a / nI d * nI d = nI (a % d) := by
  rw [pk_div ha h0 hd, pk_mul, pk_sub (Nat.div_mul_le_self a d)]
  exact congrArg nI (by have := Nat.div_add_mod' a d; omega)
theorem pk_sub_toInt {a b : Nat} (ha : a < 2 ^ 30) (hb : b < 2 ^ 30) : (nI a - nI b).toInt = (a : Int) - b := by
  rw [Int32.toInt_sub, nI_toInt (by omega), nI_toInt (by omega)]
  exact Int.bmod_eq_of_le (by omega) (by omega)
theorem pk_sneg {a b : Nat} (hb : b < 2 ^ 30) (h : a < b) : nI a - nI b < 0 := by
  rw [Int32.lt_iff_toInt_lt, pk_sub_toInt (by omega) hb, show (0 : Int32).toInt = 0 from by decide]
  omega
theorem pk_ix (x : Int32) {n : Nat} (hn : n < 2 ^ 31) : x < 0 ∨ nI n ≤ x ∨ ∃ j : Nat, j < n ∧ x = nI j := by
  by_cases h : x < 0
  · exact Or.inl h
  · obtain ⟨j, hj, rfl⟩ := nI_of h
    by_cases h2 : j < n
    · exact Or.inr (Or.inr ⟨j, h2, rfl⟩)
    · exact Or.inr (Or.inl (nI_le (by omega) hj))
theorem pk_le {x y : Int32} {A B : Prop} (a b : Nat) (f : a ≤ b → A) (g : b < a → B) (hx : x = nI a := by rfl) (hy : y = nI b := by rfl) (ha : a < 2 ^ 31 := by omega) (hb : b < 2 ^ 31 := by omega) : (x ≤ y → A) ∧ (¬ x ≤ y → B) := by
  subst hx hy
  rw [nI_leI ha hb]
  exact ⟨f, fun z => g (by omega)⟩
theorem pk_lt {x y : Int32} {A B : Prop} (a b : Nat) (f : a < b → A) (g : b ≤ a → B) (hx : x = nI a := by rfl) (hy : y = nI b := by rfl) (ha : a < 2 ^ 31 := by omega) (hb : b < 2 ^ 31 := by omega) : (x < y → A) ∧ (¬ x < y → B) := by
  subst hx hy
  rw [nI_ltI ha hb]
  exact ⟨f, fun z => g (by omega)⟩
theorem pk_eq {x y : Int32} {A B : Prop} (a b : Nat) (f : a = b → A) (g : a ≠ b → B) (hx : x = nI a := by rfl) (hy : y = nI b := by rfl) (ha : a < 2 ^ 31 := by omega) (hb : b < 2 ^ 31 := by omega) : (x = y → A) ∧ (¬ x = y → B) := by
  subst hx hy
  rw [nI_eq ha hb]
  exact ⟨f, g⟩
theorem pk_in {x : Int32} (n N : Nat) (h : n < N) (hx : x = nI n := by rfl) (hN : N < 2 ^ 31 := by omega) : vp_in x N := by
  subst hx
  exact vp_in_nI h hN
theorem pk_cl {x : Int32} (n : Nat) (hx : x = nI n := by rfl) (h : n < 2 ^ 31 := by omega) : x.toNatClampNeg = n := by
  subst hx
  exact nI_clamp h
theorem pk_lT {n : Nat} (h : n < 2 ^ 63) : (lN n).toInt = (n : Int) := lg_ofNat_toInt h
theorem pk_lLT {a b : Nat} (ha : a < 2 ^ 63) (hb : b < 2 ^ 63) : lN a < lN b ↔ a < b := by
  rw [Int64.lt_iff_toInt_lt, pk_lT ha, pk_lT hb]; omega
theorem pk_lLE {a b : Nat} (ha : a < 2 ^ 63) (hb : b < 2 ^ 63) : lN a ≤ lN b ↔ a ≤ b := by
  rw [Int64.le_iff_toInt_le, pk_lT ha, pk_lT hb]; omega
theorem pk_lEQ {a b : Nat} (ha : a < 2 ^ 63) (hb : b < 2 ^ 63) : lN a = lN b ↔ a = b := by
  rw [← Int64.toInt_inj, pk_lT ha, pk_lT hb]; omega
theorem pk_loop {σ : Type} (W : Nat → Nat → σ → Prop) (I : Nat → σ → Prop) (e i0 : Nat) (s : σ) (hi : i0 ≤ e) (h0 : I i0 s) (hx : ∀ n s, I e s → W (n + 1) e s)
    (hs : ∀ n i s, i < e → I i s → (∀ s', I (i + 1) s' → W n (i + 1) s') → W (n + 1) i s) : ∃ n, W n i0 s :=
  ⟨e + 1, loop_i W I e hx hs (e + 1) i0 s hi (by omega) h0⟩
theorem pk_loopD {σ : Type} (W : Nat → Nat → σ → Prop) (I : Nat → σ → Prop) (hx : ∀ n s, I 0 s → W (n + 1) 0 s)
    (hs : ∀ n i s, I (i + 1) s → (∀ s', I i s' → W n i s') → W (n + 1) (i + 1) s) : ∀ (e : Nat) (s : σ), I e s → W (e + 1) e s := by
  intro e
  induction e with
  | zero => exact fun s h => hx 0 s h
  | succ e ih => exact fun s h => hs (e + 1) e s h (fun s' h' => ih s' h')
end
section
/-! own sums over the naturals -/
def ff_sm (g : Nat → Nat) : Nat → Nat
  | 0 => 0
  | n + 1 => ff_sm g n + g n
theorem ff_sm_c {g h : Nat → Nat} : ∀ {n : Nat}, (∀ i, i < n → g i = h i) → ff_sm g n = ff_sm h n := by
  intro n
  induction n with
  | zero => intro _; rfl
  | succ n ih =>
    intro H
    show ff_sm g n + g n = ff_sm h n + h n
    rw [ih (fun i hi => H i (by omega)), H n (by omega)]
theorem ff_sm_a (g h : Nat → Nat) : ∀ n : Nat, ff_sm (fun i => g i + h i) n = ff_sm g n + ff_sm h n := by
  intro n
  induction n with
  | zero => rfl
  | succ n ih =>
    show ff_sm (fun i => g i + h i) n + (g n + h n) = (ff_sm g n + g n) + (ff_sm h n + h n)
    rw [ih]; omega
theorem ff_sm_z {g : Nat → Nat} {n : Nat} (H : ∀ i, i < n → g i = 0) : ff_sm g n = 0 := by
  induction n with
  | zero => rfl
  | succ n ih =>
    show ff_sm g n + g n = 0
    rw [ih (fun i hi => H i (by omega)), H n (by omega)]
theorem ff_sm_m (g : Nat → Nat) (k : Nat) : ∀ n : Nat, ff_sm (fun i => k * g i) n = k * ff_sm g n := by
  intro n
  induction n with
  | zero => rfl
  | succ n ih =>
    show ff_sm (fun i => k * g i) n + k * g n = k * (ff_sm g n + g n)
    rw [ih, Nat.mul_add]
theorem ff_sm_w (g : Nat → Nat → Nat) (m : Nat) : ∀ n : Nat, ff_sm (fun i => ff_sm (g i) m) n = ff_sm (fun j => ff_sm (fun i => g i j) n) m := by
  intro n
  induction n with
  | zero => exact (ff_sm_z (fun _ _ => rfl)).symm
  | succ n ih =>
    show ff_sm (fun i => ff_sm (g i) m) n + ff_sm (g n) m = _
    rw [ih, ← ff_sm_a]
    rfl
theorem ff_sm_s (g : Nat → Nat) (a : Nat) : ∀ b : Nat, ff_sm g (a + b) = ff_sm g a + ff_sm (fun i => g (a + i)) b := by
  intro b
  induction b with
  | zero => rfl
  | succ b ih =>
    show ff_sm g (a + b) + g (a + b) = ff_sm g a + (ff_sm (fun i => g (a + i)) b + g (a + b))
    rw [ih]; omega
theorem ff_sm_3 (g : Nat → Nat) : ∀ n : Nat, ff_sm g (3 * n) = ff_sm (fun i => ff_sm (fun c => g (3 * i + c)) 3) n := by
  intro n
  induction n with
  | zero => rfl
  | succ n ih =>
    show ff_sm g (3 * n + 3) = ff_sm (fun i => ff_sm (fun c => g (3 * i + c)) 3) n + ff_sm (fun c => g (3 * n + c)) 3
    rw [ff_sm_s, ih]
theorem ff_sm_1 {n t : Nat} (g : Nat → Nat) (ht : t < n) (H : ∀ i, i < n → i ≠ t → g i = 0) : ff_sm g n = g t := by
  obtain ⟨d, rfl⟩ : ∃ d, n = t + 1 + d := ⟨n - (t + 1), by omega⟩
  rw [ff_sm_s, ff_sm_z (g := fun i => g (t + 1 + i)) (fun i hi => H _ (by omega) (by omega))]
  show ff_sm g t + g t + 0 = g t
  rw [ff_sm_z (g := g) (fun i hi => H i (by omega) (by omega))]; omega
theorem ff_sm_le {g h : Nat → Nat} : ∀ {n : Nat}, (∀ i, i < n → g i ≤ h i) → ff_sm g n ≤ ff_sm h n := by
  intro n
  induction n with
  | zero => intro _; exact Nat.le_refl _
  | succ n ih =>
    intro H
    exact Nat.add_le_add (ih (fun i hi => H i (by omega))) (H n (by omega))
theorem ff_sm_b {g : Nat → Nat} : ∀ {n : Nat}, (∀ i, i < n → g i ≤ 1) → ff_sm g n ≤ n := by
  intro n
  induction n with
  | zero => intro _; exact Nat.le_refl _
  | succ n ih =>
    intro H
    exact Nat.add_le_add (ih (fun i hi => H i (by omega))) (H n (by omega))
theorem ff_sm_t {g : Nat → Nat} : ∀ {n i : Nat}, i < n → g i ≤ ff_sm g n := by
  intro n
  induction n with
  | zero => intro i hi; omega
  | succ n ih =>
    intro i hi
    show g i ≤ ff_sm g n + g n
    rcases Nat.lt_or_ge i n with h | h
    · have := ih h; omega
    · have : i = n := by omega
      subst this; omega
/-- a sum by classes -/
theorem ff_sm_cl (a h : Nat → Nat) (l : Nat → Nat) (T n : Nat) (H : ∀ i, i < n → l i < T) : ff_sm (fun i => a i * h (l i)) n = ff_sm (fun t => h t * ff_sm (fun i => if l i = t then a i else 0) n) T := by
  have e : ∀ t, h t * ff_sm (fun i => if l i = t then a i else 0) n = ff_sm (fun i => h t * (if l i = t then a i else 0)) n := fun t => (ff_sm_m _ _ _).symm
  rw [ff_sm_c (fun t _ => e t), ff_sm_w]
  refine ff_sm_c fun i hi => ?_
  rw [ff_sm_1 (t := l i) (fun t => h t * (if l i = t then a i else 0)) (H i hi) (fun t _ ht => by
    show h t * (if l i = t then a i else 0) = 0
    rw [if_neg (fun e => ht e.symm), Nat.mul_zero])]
  show a i * h (l i) = h (l i) * (if l i = l i then a i else 0)
  rw [if_pos rfl, Nat.mul_comm]

/-! words: a word of length n and code c has the number 3 ^ n + c -/
def ff_b (f : Nat → Int32) (j : Nat) : Bool := !decide (f j = 0)
def ff_ef (f : Nat → Int32) (w : Nat) : Bool :=
  (decide (3 ≤ w) && ff_b f (3 + w % 3)) || ((decide (9 ≤ w) && ff_b f (9 + w % 9)) || ((decide (27 ≤ w) && ff_b f (27 + w % 27)) || (decide (81 ≤ w) && ff_b f (81 + w % 81))))
def ff_ok (f : Nat → Int32) : Nat → Nat → Bool
  | 0, _ => true
  | n + 1, w => !ff_ef f w && ff_ok f n (w / 3)
def ff_l3 (w : Nat) : Nat := if w < 54 then w else 27 + w % 27
def ff_i (b : Bool) : Nat := if b then 1 else 0
theorem ff_ef_l (f : Nat → Int32) (w c : Nat) (hc : c < 3) : ff_ef f (3 * ff_l3 w + c) = ff_ef f (3 * w + c) := by
  unfold ff_l3
  by_cases h : w < 54
  · rw [if_pos h]
  · rw [if_neg h]
    unfold ff_ef
    have e1 : (3 * (27 + w % 27) + c) % 3 = (3 * w + c) % 3 := by omega
    have e2 : (3 * (27 + w % 27) + c) % 9 = (3 * w + c) % 9 := by omega
    have e3 : (3 * (27 + w % 27) + c) % 27 = (3 * w + c) % 27 := by omega
    have e4 : (3 * (27 + w % 27) + c) % 81 = (3 * w + c) % 81 := by omega
    rw [e1, e2, e3, e4]
    have d : ∀ b, b ≤ 81 → decide (b ≤ 3 * (27 + w % 27) + c) = decide (b ≤ 3 * w + c) := fun b hb => by
      rw [decide_eq_true (by omega), decide_eq_true (by omega)]
    rw [d 3 (by omega), d 9 (by omega), d 27 (by omega), d 81 (by omega)]
theorem ff_l3_l (w c : Nat) (hc : c < 3) : ff_l3 (3 * ff_l3 w + c) = ff_l3 (3 * w + c) := by
  unfold ff_l3
  by_cases h : w < 54
  · rw [if_pos h]
  · rw [if_neg h, if_neg (by omega), if_neg (by omega)]; omega
theorem ff_l3_lt (w : Nat) : ff_l3 w < 54 := by unfold ff_l3; split <;> omega
/-- the table by tails -/
def ff_cn (f : Nat → Int32) (n t : Nat) : Nat := ff_sm (fun c => if ff_l3 (3 ^ n + c) = t then ff_i (ff_ok f n (3 ^ n + c)) else 0) (3 ^ n)
def ff_tot (f : Nat → Int32) (n : Nat) : Nat := ff_sm (fun c => ff_i (ff_ok f n (3 ^ n + c))) (3 ^ n)
/-- how many letters lead from tail t to tail t' -/
def ff_h (f : Nat → Int32) (t' t : Nat) : Nat := ff_sm (fun c => if ff_l3 (3 * t + c) = t' then ff_i (!ff_ef f (3 * t + c)) else 0) 3
theorem ff_cn_s (f : Nat → Int32) (n t' : Nat) : ff_cn f (n + 1) t' = ff_sm (fun t => ff_h f t' t * ff_cn f n t) 54 := by
  unfold ff_cn
  rw [← ff_sm_cl (fun c => ff_i (ff_ok f n (3 ^ n + c))) (fun t => ff_h f t' t) (fun c => ff_l3 (3 ^ n + c)) 54 (3 ^ n) (fun _ _ => ff_l3_lt _)]
  have e : 3 ^ (n + 1) = 3 * 3 ^ n := by rw [Nat.pow_succ]; omega
  rw [e, ff_sm_3]
  refine ff_sm_c fun w _ => ?_
  show _ = ff_i (ff_ok f n (3 ^ n + w)) * ff_h f t' (ff_l3 (3 ^ n + w))
  unfold ff_h
  rw [← ff_sm_m]
  refine ff_sm_c fun c hc => ?_
  have e2 : 3 * 3 ^ n + (3 * w + c) = 3 * (3 ^ n + w) + c := by omega
  rw [e2, ff_l3_l _ _ hc, ff_ef_l _ _ _ hc]
  have e3 : ff_ok f (n + 1) (3 * (3 ^ n + w) + c) = (!ff_ef f (3 * (3 ^ n + w) + c) && ff_ok f n (3 ^ n + w)) := by
    show (!ff_ef f (3 * (3 ^ n + w) + c) && ff_ok f n ((3 * (3 ^ n + w) + c) / 3)) = _
    have : (3 * (3 ^ n + w) + c) / 3 = 3 ^ n + w := by omega
    rw [this]
  rw [e3]
  by_cases h : ff_l3 (3 * (3 ^ n + w) + c) = t'
  · rw [if_pos h, if_pos h]
    cases ff_ef f (3 * (3 ^ n + w) + c) <;> cases ff_ok f n (3 ^ n + w) <;> rfl
  · rw [if_neg h, if_neg h, Nat.mul_zero]
theorem ff_cn_0 (f : Nat → Int32) (t : Nat) : ff_cn f 0 t = if t = 1 then 1 else 0 := by
  show 0 + (if ff_l3 (3 ^ 0 + 0) = t then ff_i (ff_ok f 0 (3 ^ 0 + 0)) else 0) = _
  have e : ff_l3 (3 ^ 0 + 0) = 1 := by decide
  rw [e]
  by_cases h : t = 1
  · subst h; rfl
  · rw [if_neg (fun e => h e.symm), if_neg h]
theorem ff_l3_pos {w : Nat} (h : 0 < w) : 0 < ff_l3 w := by unfold ff_l3; split <;> omega
theorem ff_p3 (n : Nat) : 0 < 3 ^ n := Nat.pow_pos (by omega)
theorem ff_cn_t0 (f : Nat → Int32) (n : Nat) : ff_cn f n 0 = 0 := by
  refine ff_sm_z fun c _ => ?_
  have := ff_l3_pos (w := 3 ^ n + c) (by have := ff_p3 n; omega)
  rw [if_neg (by omega)]
theorem ff_tot_cn (f : Nat → Int32) (n : Nat) : ff_sm (ff_cn f n) 54 = ff_tot f n := by
  have h := ff_sm_cl (fun c => ff_i (ff_ok f n (3 ^ n + c))) (fun _ => 1) (fun c => ff_l3 (3 ^ n + c)) 54 (3 ^ n) (fun _ _ => ff_l3_lt _)
  unfold ff_tot
  refine Eq.trans (ff_sm_c fun t _ => ?_) (h.symm.trans (ff_sm_c fun c _ => Nat.mul_one _))
  exact (Nat.one_mul _).symm
theorem ff_i_le (b : Bool) : ff_i b ≤ 1 := by cases b <;> decide
theorem ff_tot_le (f : Nat → Int32) (n : Nat) : ff_tot f n ≤ 3 ^ n := ff_sm_b fun _ _ => ff_i_le _
theorem ff_cn_le (f : Nat → Int32) (n t : Nat) : ff_cn f n t ≤ 3 ^ n := by
  refine ff_sm_b fun c _ => ?_
  split
  · exact ff_i_le _
  · exact Nat.zero_le _
theorem ff_pow_lt {n : Nat} (h : n ≤ 30) : 3 ^ n < 2 ^ 63 :=
  Nat.lt_of_le_of_lt (Nat.pow_le_pow_right (by omega) h) (by decide)
/-- for words of three letters and more no tail is shorter -/
theorem ff_cn_lo (f : Nat → Int32) {n t : Nat} (hn : 3 ≤ n) (ht : t < 27) : ff_cn f n t = 0 := by
  refine ff_sm_z fun c _ => ?_
  have h3 : 3 ^ 3 ≤ 3 ^ n := Nat.pow_le_pow_right (by omega) hn
  have h3 : 27 ≤ 3 ^ n := h3
  have : 27 ≤ ff_l3 (3 ^ n + c) := by unfold ff_l3; split <;> omega
  rw [if_neg (by omega)]
/-- an allowed word's last three letters are allowed -/
theorem ff_ok_l3 (f : Nat → Int32) {n w : Nat} (hn : 3 ≤ n) (hw : 27 ≤ w) (h : ff_ok f n w = true) : ff_ok f 3 (ff_l3 w) = true := by
  obtain ⟨m, rfl⟩ : ∃ m, n = m + 3 := ⟨n - 3, by omega⟩
  have el : ff_l3 w = 27 + w % 27 := by unfold ff_l3; split <;> omega
  rw [el]
  have h' : (!ff_ef f w && (!ff_ef f (w / 3) && (!ff_ef f (w / 3 / 3) && ff_ok f m (w / 3 / 3 / 3)))) = true := h
  show (!ff_ef f (27 + w % 27) && (!ff_ef f ((27 + w % 27) / 3) && (!ff_ef f ((27 + w % 27) / 3 / 3) && true))) = true
  simp only [Bool.and_eq_true, Bool.not_eq_true', Bool.and_true] at h' ⊢
  obtain ⟨h1, h2, h3, _⟩ := h'
  unfold ff_ef at h1 h2 h3 ⊢
  simp only [Bool.or_eq_false_iff, Bool.and_eq_false_iff, decide_eq_false_iff_not] at h1 h2 h3 ⊢
  have a1 : (27 + w % 27) % 3 = w % 3 := by omega
  have a2 : (27 + w % 27) % 9 = w % 9 := by omega
  have a3 : (27 + w % 27) % 27 = w % 27 := by omega
  have b1 : (27 + w % 27) / 3 % 3 = w / 3 % 3 := by omega
  have b2 : (27 + w % 27) / 3 % 9 = w / 3 % 9 := by omega
  have c1 : (27 + w % 27) / 3 / 3 % 3 = w / 3 / 3 % 3 := by omega
  rw [a1, a2, a3, b1, b2, c1]
  obtain ⟨p1, p2, p3, _⟩ := h1
  obtain ⟨q1, q2, _, _⟩ := h2
  obtain ⟨r1, _, _, _⟩ := h3
  refine ⟨⟨Or.inr (p1.resolve_left (by omega)), Or.inr (p2.resolve_left (by omega)), Or.inr (p3.resolve_left (by omega)), Or.inl (by omega)⟩,
    ⟨Or.inr (q1.resolve_left (by omega)), Or.inr (q2.resolve_left (by omega)), Or.inl (by omega), Or.inl (by omega)⟩,
    ⟨Or.inr (r1.resolve_left (by omega)), Or.inl (by omega), Or.inl (by omega), Or.inl (by omega)⟩⟩
theorem ff_cn_ok (f : Nat → Int32) {n k : Nat} (hn : 3 ≤ n) (h : ff_ok f 3 (27 + k) = false) : ff_cn f n (27 + k) = 0 := by
  refine ff_sm_z fun c _ => ?_
  have h3 : 3 ^ 3 ≤ 3 ^ n := Nat.pow_le_pow_right (by omega) hn
  have h3 : 27 ≤ 3 ^ n := h3
  by_cases e : ff_l3 (3 ^ n + c) = 27 + k
  · rw [if_pos e]
    cases hk : ff_ok f n (3 ^ n + c) with
    | false => rfl
    | true =>
      have := ff_ok_l3 f hn (by omega) hk
      rw [e, h] at this
      exact absurd this (by decide)
  · rw [if_neg e]
/-- the other table: tails of just three letters, a letter taken where the four letters are allowed -/
def ff_hy (f : Nat → Int32) (j k : Nat) : Nat := ff_sm (fun c => if (3 * k + c) % 27 = j then ff_i (ff_ok f 4 (81 + (3 * k + c))) else 0) 3
theorem ff_cn_y (f : Nat → Int32) {n j : Nat} (hn : 3 ≤ n) (hj : j < 27) : ff_cn f (n + 1) (27 + j) = ff_sm (fun k => ff_hy f j k * ff_cn f n (27 + k)) 27 := by
  rw [ff_cn_s]
  show ff_sm _ (27 + 27) = _
  rw [ff_sm_s, ff_sm_z (fun t ht => by rw [ff_cn_lo f hn ht, Nat.mul_zero]), Nat.zero_add]
  refine ff_sm_c fun k hk => ?_
  cases ho : ff_ok f 3 (27 + k) with
  | false => rw [ff_cn_ok f hn ho, Nat.mul_zero, Nat.mul_zero]
  | true =>
    congr 1
    unfold ff_h ff_hy
    refine ff_sm_c fun c hc => ?_
    have e1 : 3 * (27 + k) + c = 81 + (3 * k + c) := by omega
    have e2 : ff_l3 (81 + (3 * k + c)) = 27 + (3 * k + c) % 27 := by
      unfold ff_l3; rw [if_neg (by omega)]; omega
    have e3 : ff_ok f 4 (81 + (3 * k + c)) = !ff_ef f (81 + (3 * k + c)) := by
      show (!ff_ef f (81 + (3 * k + c)) && ff_ok f 3 ((81 + (3 * k + c)) / 3)) = _
      have : (81 + (3 * k + c)) / 3 = 27 + k := by omega
      rw [this, ho, Bool.and_true]
    rw [e1, e2, e3]
    by_cases h : (3 * k + c) % 27 = j
    · rw [if_pos h, if_pos (by omega)]
    · rw [if_neg h, if_neg (by omega)]
theorem ff_cn_3 (f : Nat → Int32) {k : Nat} (hk : k < 27) : ff_cn f 3 (27 + k) = ff_i (ff_ok f 3 (27 + k)) := by
  have e : ∀ c, c < 27 → ff_l3 (27 + c) = 27 + c := fun c hc => by unfold ff_l3; rw [if_pos (by omega)]
  show ff_sm (fun c => if ff_l3 (27 + c) = 27 + k then ff_i (ff_ok f 3 (27 + c)) else 0) 27 = _
  rw [ff_sm_1 _ hk (fun c hc hne => by
    show (if ff_l3 (27 + c) = 27 + k then ff_i (ff_ok f 3 (27 + c)) else 0) = 0
    rw [e c hc, if_neg (by omega)])]
  show (if ff_l3 (27 + k) = 27 + k then ff_i (ff_ok f 3 (27 + k)) else 0) = _
  rw [e k hk, if_pos rfl]
theorem ff_tot_y (f : Nat → Int32) {n : Nat} (hn : 3 ≤ n) : ff_sm (fun k => ff_cn f n (27 + k)) 27 = ff_tot f n := by
  rw [← ff_tot_cn]
  show _ = ff_sm (ff_cn f n) (27 + 27)
  rw [ff_sm_s, ff_sm_z (fun t ht => ff_cn_lo f hn ht), Nat.zero_add]
end
section
/-! more of the pure picture: places, ranges, letters -/
theorem ff_sm_f (g : Nat → Nat) (n : Nat) : ff_sm g (n + 1) = g 0 + ff_sm (fun i => g (i + 1)) n := by
  have h := ff_sm_s g 1 n
  have e : ff_sm g 1 = g 0 := Nat.zero_add _
  have e2 : ff_sm (fun i => g (1 + i)) n = ff_sm (fun i => g (i + 1)) n := ff_sm_c fun i _ => congrArg g (Nat.add_comm 1 i)
  rw [Nat.add_comm n 1, h, e, e2]
theorem ff_rng (F g : Nat → Nat) {K L q : Nat} (hL : 0 < L) (hq : q < K) (H1 : ∀ i, i < L → F (q * L + i) = g (q * L + i)) (H0 : ∀ c, c < K * L → c / L ≠ q → F c = 0) : ff_sm F (K * L) = ff_sm (fun i => g (q * L + i)) L := by
  obtain ⟨d, hd⟩ : ∃ d, K = q + 1 + d := ⟨K - (q + 1), by omega⟩
  have e : K * L = q * L + (L + d * L) := by rw [hd, Nat.add_mul, Nat.add_mul]; omega
  have s1 := ff_sm_s F (q * L) (L + d * L)
  have s2 := ff_sm_s (fun i => F (q * L + i)) L (d * L)
  have z1 : ff_sm F (q * L) = 0 := ff_sm_z fun c hc => H0 c (by omega) (by
    have : c / L < q := (Nat.div_lt_iff_lt_mul hL).mpr hc
    omega)
  have z2 : ff_sm (fun i => F (q * L + (L + i))) (d * L) = 0 := ff_sm_z fun i hi => H0 _ (by omega) (by
    have : q + 1 ≤ (q * L + (L + i)) / L := (Nat.le_div_iff_mul_le hL).mpr (by rw [Nat.add_mul]; omega)
    omega)
  have z3 : ff_sm (fun i => F (q * L + i)) L = ff_sm (fun i => g (q * L + i)) L := ff_sm_c H1
  rw [e, s1, z1, s2, z3]
  show 0 + (ff_sm (fun i => g (q * L + i)) L + ff_sm (fun i => F (q * L + (L + i))) (d * L)) = _
  rw [z2, Nat.zero_add, Nat.add_zero]
/-- how many allowed words of length n have the piece 3 ^ k + q with just a letters after it -/
def ff_pw (f : Nat → Int32) (n k q a : Nat) : Nat := ff_sm (fun c => if (c / 3 ^ a) % 3 ^ k = q then ff_i (ff_ok f n (3 ^ n + c)) else 0) (3 ^ n)
theorem ff_begin (f : Nat → Int32) {n k q : Nat} (hk : k ≤ n) (hq : q < 3 ^ k) : ff_pw f n k q (n - k) = ff_sm (fun i => ff_i (ff_ok f n (3 ^ n + (q * 3 ^ (n - k) + i)))) (3 ^ (n - k)) := by
  have e : 3 ^ n = 3 ^ k * 3 ^ (n - k) := by rw [← Nat.pow_add]; congr 1; omega
  have hL : 0 < 3 ^ (n - k) := ff_p3 _
  have h := ff_rng (fun c => if (c / 3 ^ (n - k)) % 3 ^ k = q then ff_i (ff_ok f n (3 ^ n + c)) else 0) (fun c => ff_i (ff_ok f n (3 ^ n + c))) hL hq
    (fun i hi => by
      have e1 : (q * 3 ^ (n - k) + i) / 3 ^ (n - k) = q := by
        rw [Nat.mul_comm, Nat.mul_add_div hL, Nat.div_eq_of_lt hi, Nat.add_zero]
      show (if ((q * 3 ^ (n - k) + i) / 3 ^ (n - k)) % 3 ^ k = q then _ else 0) = _
      rw [e1, Nat.mod_eq_of_lt hq, if_pos rfl])
    (fun c hc hne => by
      have h1 : c / 3 ^ (n - k) < 3 ^ k := (Nat.div_lt_iff_lt_mul hL).mpr hc
      show (if (c / 3 ^ (n - k)) % 3 ^ k = q then _ else 0) = 0
      rw [Nat.mod_eq_of_lt h1, if_neg hne])
  rw [← e] at h
  exact h
theorem ff_end (f : Nat → Int32) {n k q : Nat} (hk : k ≤ n) : ff_sm (fun c => if k ≤ n ∧ c % 3 ^ k = q then ff_i (ff_ok f n (3 ^ n + c)) else 0) (3 ^ n) = ff_pw f n k q 0 := by
  refine ff_sm_c fun c _ => ?_
  have e : c / 3 ^ 0 = c := Nat.div_one c
  rw [e]
  by_cases h : c % 3 ^ k = q
  · rw [if_pos ⟨hk, h⟩, if_pos h]
  · rw [if_neg (fun z => h z.2), if_neg h]
theorem ff_end0 (f : Nat → Int32) {n k q : Nat} (hk : n < k) : ff_sm (fun c => if k ≤ n ∧ c % 3 ^ k = q then ff_i (ff_ok f n (3 ^ n + c)) else 0) (3 ^ n) = 0 :=
  ff_sm_z fun _ _ => if_neg (fun z => by have := z.1; omega)
/-- at how many places the piece stands, by the letters left -/
def ff_pc (k q : Nat) : Nat → Nat → Nat
  | 0, _ => 0
  | m + 1, r => (if k ≤ m + 1 ∧ r % 3 ^ k = q then 1 else 0) + ff_pc k q m (r / 3)
theorem ff_pc_sm (k q : Nat) : ∀ m r : Nat, ff_pc k q m r = ff_sm (fun i => if k ≤ m - i ∧ (r / 3 ^ i) % 3 ^ k = q then 1 else 0) m := by
  intro m
  induction m with
  | zero => intro r; rfl
  | succ m ih =>
    intro r
    rw [ff_sm_f]
    show (if k ≤ m + 1 ∧ r % 3 ^ k = q then 1 else 0) + ff_pc k q m (r / 3) = _
    rw [ih (r / 3)]
    have e0 : r / 3 ^ 0 = r := Nat.div_one r
    have e1 : m + 1 - 0 = m + 1 := rfl
    rw [e0, e1]
    congr 1
    refine ff_sm_c fun i _ => ?_
    have e2 : m + 1 - (i + 1) = m - i := by omega
    have e3 : r / 3 ^ (i + 1) = r / 3 / 3 ^ i := by rw [Nat.div_div_eq_div_mul, Nat.pow_succ, Nat.mul_comm]
    rw [e2, e3]
theorem ff_st (f : Nat → Int32) (n k q : Nat) : ff_sm (fun c => if ff_ok f n (3 ^ n + c) = true then ff_pc k q n c else 0) (3 ^ n) = ff_sm (fun i => if k ≤ n - i then ff_pw f n k q i else 0) n := by
  have e : ∀ c, c < 3 ^ n → (if ff_ok f n (3 ^ n + c) = true then ff_pc k q n c else 0) = ff_sm (fun i => if k ≤ n - i then (if (c / 3 ^ i) % 3 ^ k = q then ff_i (ff_ok f n (3 ^ n + c)) else 0) else 0) n := by
    intro c _
    cases h : ff_ok f n (3 ^ n + c) with
    | true =>
      rw [if_pos rfl, ff_pc_sm]
      refine ff_sm_c fun i _ => ?_
      by_cases h1 : k ≤ n - i
      · by_cases h2 : (c / 3 ^ i) % 3 ^ k = q
        · rw [if_pos ⟨h1, h2⟩, if_pos h1, if_pos h2]; rfl
        · rw [if_neg (fun z => h2 z.2), if_pos h1, if_neg h2]
      · rw [if_neg (fun z => h1 z.1), if_neg h1]
    | false =>
      rw [if_neg (by decide)]
      refine (ff_sm_z fun i _ => ?_).symm
      by_cases h1 : k ≤ n - i
      · by_cases h2 : (c / 3 ^ i) % 3 ^ k = q
        · rw [if_pos h1, if_pos h2]; rfl
        · rw [if_pos h1, if_neg h2]
      · rw [if_neg h1]
  rw [ff_sm_c e, ff_sm_w (fun c i => if k ≤ n - i then (if (c / 3 ^ i) % 3 ^ k = q then ff_i (ff_ok f n (3 ^ n + c)) else 0) else 0) n (3 ^ n)]
  refine ff_sm_c fun i _ => ?_
  by_cases h1 : k ≤ n - i
  · rw [if_pos h1]
    exact ff_sm_c fun c _ => if_pos h1
  · rw [if_neg h1]
    exact ff_sm_z fun c _ => if_neg h1
theorem ff_stand (f : Nat → Int32) {n k q : Nat} (h1 : 1 ≤ k) (hk : k ≤ n) : ff_sm (fun c => if ff_ok f n (3 ^ n + c) = true then ff_pc k q n c else 0) (3 ^ n) = ff_sm (ff_pw f n k q) (n - k + 1) := by
  rw [ff_st]
  have s := ff_sm_s (fun i => if k ≤ n - i then ff_pw f n k q i else 0) (n - k + 1) (k - 1)
  have e : n - k + 1 + (k - 1) = n := by omega
  rw [e] at s
  have z : ff_sm (fun i => (fun i => if k ≤ n - i then ff_pw f n k q i else 0) (n - k + 1 + i)) (k - 1) = 0 := ff_sm_z fun i _ => if_neg (by omega)
  rw [s, z, Nat.add_zero]
  exact ff_sm_c fun i hi => if_pos (by omega)
theorem ff_stand0 (f : Nat → Int32) {n k q : Nat} (hk : n < k) : ff_sm (fun c => if ff_ok f n (3 ^ n + c) = true then ff_pc k q n c else 0) (3 ^ n) = 0 := by
  rw [ff_st]
  exact ff_sm_z fun i _ => if_neg (by omega)
/-- the reference's four tests at a word's end -/
theorem ff_ef_y (f : Nat → Int32) {m r : Nat} (hr : r < 3 ^ (m + 1)) : ff_ef f (3 ^ (m + 1) + r) = (ff_b f (3 + r % 3) || ((decide (1 ≤ m) && ff_b f (9 + r % 9)) || ((decide (2 ≤ m) && ff_b f (27 + r % 27)) || (decide (3 ≤ m) && ff_b f (81 + r % 81))))) := by
  unfold ff_ef
  match m, hr with
  | 0, hr =>
    have hr : r < 3 := hr
    show ((decide (3 ≤ 3 + r) && ff_b f (3 + (3 + r) % 3)) || ((decide (9 ≤ 3 + r) && ff_b f (9 + (3 + r) % 9)) || ((decide (27 ≤ 3 + r) && ff_b f (27 + (3 + r) % 27)) || (decide (81 ≤ 3 + r) && ff_b f (81 + (3 + r) % 81))))) = _
    rw [decide_eq_true (show 3 ≤ 3 + r by omega), decide_eq_false (show ¬ 9 ≤ 3 + r by omega), decide_eq_false (show ¬ 27 ≤ 3 + r by omega), decide_eq_false (show ¬ 81 ≤ 3 + r by omega)]
    have e : (3 + r) % 3 = r % 3 := by omega
    rw [e]
    rfl
  | 1, hr =>
    have hr : r < 9 := hr
    show ((decide (3 ≤ 9 + r) && ff_b f (3 + (9 + r) % 3)) || ((decide (9 ≤ 9 + r) && ff_b f (9 + (9 + r) % 9)) || ((decide (27 ≤ 9 + r) && ff_b f (27 + (9 + r) % 27)) || (decide (81 ≤ 9 + r) && ff_b f (81 + (9 + r) % 81))))) = _
    rw [decide_eq_true (show 3 ≤ 9 + r by omega), decide_eq_true (show 9 ≤ 9 + r by omega), decide_eq_false (show ¬ 27 ≤ 9 + r by omega), decide_eq_false (show ¬ 81 ≤ 9 + r by omega)]
    have e : (9 + r) % 3 = r % 3 := by omega
    have e' : (9 + r) % 9 = r % 9 := by omega
    rw [e, e']
    rfl
  | 2, hr =>
    have hr : r < 27 := hr
    show ((decide (3 ≤ 27 + r) && ff_b f (3 + (27 + r) % 3)) || ((decide (9 ≤ 27 + r) && ff_b f (9 + (27 + r) % 9)) || ((decide (27 ≤ 27 + r) && ff_b f (27 + (27 + r) % 27)) || (decide (81 ≤ 27 + r) && ff_b f (81 + (27 + r) % 81))))) = _
    rw [decide_eq_true (show 3 ≤ 27 + r by omega), decide_eq_true (show 9 ≤ 27 + r by omega), decide_eq_true (show 27 ≤ 27 + r by omega), decide_eq_false (show ¬ 81 ≤ 27 + r by omega)]
    have e : (27 + r) % 3 = r % 3 := by omega
    have e' : (27 + r) % 9 = r % 9 := by omega
    have e'' : (27 + r) % 27 = r % 27 := by omega
    rw [e, e', e'']
    rfl
  | m + 3, hr =>
    have hp : 3 ^ (m + 3 + 1) = 81 * 3 ^ m := by rw [Nat.pow_succ, Nat.pow_succ, Nat.pow_succ, Nat.pow_succ]; omega
    have h0 : 0 < 3 ^ m := ff_p3 m
    rw [hp]
    generalize 3 ^ m = P at h0
    rw [decide_eq_true (show 3 ≤ 81 * P + r by omega), decide_eq_true (show 9 ≤ 81 * P + r by omega), decide_eq_true (show 27 ≤ 81 * P + r by omega), decide_eq_true (show 81 ≤ 81 * P + r by omega), decide_eq_true (show 1 ≤ m + 3 by omega), decide_eq_true (show 2 ≤ m + 3 by omega), decide_eq_true (show 3 ≤ m + 3 by omega)]
    have e : (81 * P + r) % 3 = r % 3 := by omega
    have e' : (81 * P + r) % 9 = r % 9 := by omega
    have e'' : (81 * P + r) % 27 = r % 27 := by omega
    have e3 : (81 * P + r) % 81 = r % 81 := by omega
    rw [e, e', e'', e3]
    rfl
theorem ff_ok_s (f : Nat → Int32) (n w c : Nat) (hc : c < 3) : ff_ok f (n + 1) (3 * w + c) = (!ff_ef f (3 * w + c) && ff_ok f n w) := by
  show (!ff_ef f (3 * w + c) && ff_ok f n ((3 * w + c) / 3)) = _
  have : (3 * w + c) / 3 = w := by omega
  rw [this]
theorem ff_pS (n : Nat) : 3 ^ (n + 1) = 3 * 3 ^ n := by rw [Nat.pow_succ]; omega
theorem ff_p9 {n : Nat} (h : n ≤ 9) : 3 ^ n ≤ 19683 := Nat.le_trans (Nat.pow_le_pow_right (by omega) h) (show 3 ^ 9 ≤ 19683 by decide)
theorem ff_p10 {n : Nat} (h : n ≤ 10) : 3 ^ n ≤ 59049 := Nat.le_trans (Nat.pow_le_pow_right (by omega) h) (show 3 ^ 10 ≤ 59049 by decide)
theorem ff_p4 {k : Nat} (h : k ≤ 4) : 3 ^ k ≤ 81 := Nat.le_trans (Nat.pow_le_pow_right (by omega) h) (show 3 ^ 4 ≤ 81 by decide)
/-- letters 0, and the word read from its end -/
def ff_zr : Nat → Nat → Nat → Nat
  | 0, _, a => a
  | m + 1, r, a => ff_zr m (r / 3) (if r % 3 = 0 then a + 1 else a)
def ff_bw : Nat → Nat → Nat → Nat
  | 0, _, a => a
  | m + 1, r, a => ff_bw m (r / 3) (a * 3 + r % 3)
/-- the i-th allowed word, the next allowed word -/
def ff_wd (f : Nat → Int32) (n : Nat) (v : Int32) : Nat → Nat → Nat → Int32
  | 0, _, _ => -2
  | m + 1, c, a => if ff_ok f n (3 ^ n + c) = true then (if nI a = v then nI c else ff_wd f n v m (c + 1) (a + 1)) else ff_wd f n v m (c + 1) a
def ff_nx (f : Nat → Int32) (n : Nat) (v : Int32) : Nat → Nat → Int32
  | 0, _ => -2
  | m + 1, c => if v < nI c ∧ ff_ok f n (3 ^ n + c) = true then nI c else ff_nx f n v m (c + 1)
/-- the longest length with an allowed word -/
def ff_lg (f : Nat → Int32) : Nat → Nat
  | 0 => 0
  | n + 1 => if 0 < ff_tot f (n + 1) then n + 1 else ff_lg f n
theorem ff_lg_le (f : Nat → Int32) : ∀ n : Nat, ff_lg f n ≤ n := by
  intro n
  induction n with
  | zero => exact Nat.le_refl _
  | succ n ih =>
    show (if 0 < ff_tot f (n + 1) then n + 1 else ff_lg f n) ≤ n + 1
    split <;> omega
end
section
/-! steps of a walk by pure facts -/
def ff_B (b : Bool) : Int32 := if b then 1 else 0
theorem ff_Bz {b : Bool} {A B : Prop} (f : b = false → A) (t : b = true → B) : (ff_B b = 0 → A) ∧ (¬ ff_B b = 0 → B) := by
  cases b with
  | false => exact ⟨fun _ => f rfl, fun h => absurd rfl h⟩
  | true => exact ⟨fun h => absurd h (by decide), fun _ => t rfl⟩
theorem ff_Fz {f : Nat → Int32} {x : Int32} {A B : Prop} (j : Nat) (fl : ff_b f j = false → A) (tr : ff_b f j = true → B) (hx : x = nI j := by rfl) (hj : j < 2 ^ 31 := by omega) : (f x.toNatClampNeg = 0 → A) ∧ (¬ f x.toNatClampNeg = 0 → B) := by
  subst hx
  rw [nI_clamp hj]
  refine ⟨fun h => fl ?_, fun h => tr ?_⟩
  · unfold ff_b; rw [decide_eq_true h]; rfl
  · unfold ff_b; rw [decide_eq_false h]; rfl
theorem ff_lt1 {v : Int32} {a : Nat} (ha : a + 1 < 2 ^ 31) : v < nI (a + 1) ↔ v ≤ nI a := by
  rw [Int32.lt_iff_toInt_lt, Int32.le_iff_toInt_le, nI_toInt ha, nI_toInt (by omega)]; omega
theorem ff_nlt {v w : Int32} : ¬ v < w ↔ w ≤ v := Int32.not_lt
theorem ff_nle {v w : Int32} : ¬ v ≤ w ↔ w < v := Int32.not_le
/-- a length, or not -/
theorem ff_ixN (v : Int32) (N : Nat) (hN : N + 1 < 2 ^ 31) : (v < 0 ∨ (¬ v < 0 ∧ nI N < v)) ∨ ∃ j : Nat, j ≤ N ∧ v = nI j := by
  rcases pk_ix v (n := N + 1) hN with h | h | ⟨j, hj, e⟩
  · exact Or.inl (Or.inl h)
  · have h1 : nI N < v := Int32.lt_of_lt_of_le (nI_lt (Nat.lt_succ_self N) hN) h
    have h2 : ¬ v < 0 := ff_nlt.mpr (Int32.le_trans (nI_pos' hN) h)
    exact Or.inl (Or.inr ⟨h2, h1⟩)
  · exact Or.inr ⟨j, by omega, e⟩
/-- a code below P, or not -/
theorem ff_ixC (v : Int32) (P : Nat) (hP : P < 2 ^ 31) : (v < 0 ∨ (¬ v < 0 ∧ nI P ≤ v)) ∨ ∃ c : Nat, c < P ∧ v = nI c := by
  rcases pk_ix v (n := P) hP with h | h | ⟨j, hj, e⟩
  · exact Or.inl (Or.inl h)
  · exact Or.inl (Or.inr ⟨ff_nlt.mpr (Int32.le_trans (nI_pos' hP) h), h⟩)
  · exact Or.inr ⟨j, hj, e⟩
/-- v is no piece's number -/
def ff_np (v : Int32) : Prop := ∀ i, i < 4 → (v < nI (3 ^ (i + 1)) ∨ (¬ v < nI (3 ^ (i + 1)) ∧ nI (2 * 3 ^ (i + 1)) ≤ v))
theorem ff_np4 {v : Int32} (h0 : v < nI 3 ∨ (¬ v < nI 3 ∧ nI 6 ≤ v)) (h1 : v < nI 9 ∨ (¬ v < nI 9 ∧ nI 18 ≤ v)) (h2 : v < nI 27 ∨ (¬ v < nI 27 ∧ nI 54 ≤ v)) (h3 : v < nI 81 ∨ (¬ v < nI 81 ∧ nI 162 ≤ v)) : ff_np v := by
  intro i hi
  match i, hi with
  | 0, _ => exact h0
  | 1, _ => exact h1
  | 2, _ => exact h2
  | 3, _ => exact h3
theorem ff_npN {p a b : Nat} (hp : p < 2 ^ 31) (ha : a < 2 ^ 31) (hb : b < 2 ^ 31) (h : p < a ∨ b ≤ p) : nI p < nI a ∨ (¬ nI p < nI a ∧ nI b ≤ nI p) := by
  rcases Nat.lt_or_ge p a with h1 | h1
  · exact Or.inl (nI_lt h1 ha)
  · exact Or.inr ⟨nI_nlt h1 hp, nI_le (by omega) hp⟩
theorem ff_npL {v : Int32} (h : v < 0) {a : Nat} (ha : a < 2 ^ 31) {Q : Prop} : v < nI a ∨ Q := Or.inl (Int32.lt_of_lt_of_le h (nI_pos' ha))
theorem ff_npH {v : Int32} (h : nI 162 ≤ v) {a b : Nat} (ha : a ≤ 162) (hb : b ≤ 162) : v < nI a ∨ (¬ v < nI a ∧ nI b ≤ v) :=
  Or.inr ⟨ff_nlt.mpr (Int32.le_trans (nI_le ha (by decide)) h), Int32.le_trans (nI_le hb (by decide)) h⟩
theorem ff_piece (v : Int32) : ff_np v ∨ ∃ k q : Nat, 1 ≤ k ∧ k ≤ 4 ∧ q < 3 ^ k ∧ v = nI (3 ^ k + q) := by
  rcases pk_ix v (n := 162) (by decide) with h | h | ⟨p, hp, rfl⟩
  · exact Or.inl (ff_np4 (ff_npL h (by decide)) (ff_npL h (by decide)) (ff_npL h (by decide)) (ff_npL h (by decide)))
  · exact Or.inl (ff_np4 (ff_npH h (by decide) (by decide)) (ff_npH h (by decide) (by decide)) (ff_npH h (by decide) (by decide)) (ff_npH h (by decide) (by decide)))
  · by_cases a1 : 3 ≤ p ∧ p < 6
    · exact Or.inr ⟨1, p - 3, by omega, by omega, by show p - 3 < 3; omega, congrArg nI (by show p = 3 + (p - 3); omega)⟩
    by_cases a2 : 9 ≤ p ∧ p < 18
    · exact Or.inr ⟨2, p - 9, by omega, by omega, by show p - 9 < 9; omega, congrArg nI (by show p = 9 + (p - 9); omega)⟩
    by_cases a3 : 27 ≤ p ∧ p < 54
    · exact Or.inr ⟨3, p - 27, by omega, by omega, by show p - 27 < 27; omega, congrArg nI (by show p = 27 + (p - 27); omega)⟩
    by_cases a4 : 81 ≤ p ∧ p < 162
    · exact Or.inr ⟨4, p - 81, by omega, by omega, by show p - 81 < 81; omega, congrArg nI (by show p = 81 + (p - 81); omega)⟩
    exact Or.inl (ff_np4 (ff_npN (by omega) (by decide) (by decide) (by omega)) (ff_npN (by omega) (by decide) (by decide) (by omega)) (ff_npN (by omega) (by decide) (by decide) (by omega)) (ff_npN (by omega) (by decide) (by decide) (by omega)))
/-- the same by the reference's comparisons -/
theorem ff_npY {v : Int32} (h : ff_np v) : (v ≤ 2 ∨ (¬ v ≤ 2 ∧ (6 : Int32) ≤ v)) ∧ (v ≤ 8 ∨ (¬ v ≤ 8 ∧ (18 : Int32) ≤ v)) ∧ (v ≤ 26 ∨ (¬ v ≤ 26 ∧ (54 : Int32) ≤ v)) ∧ (v ≤ 80 ∨ (¬ v ≤ 80 ∧ (162 : Int32) ≤ v)) := by
  have g : ∀ a b : Nat, a + 1 < 2 ^ 31 → (v < nI (a + 1) ∨ (¬ v < nI (a + 1) ∧ nI b ≤ v)) → (v ≤ nI a ∨ (¬ v ≤ nI a ∧ nI b ≤ v)) := by
    intro a b ha hh
    rw [ff_lt1 ha] at hh
    exact hh
  exact ⟨g 2 6 (by decide) (h 0 (by decide)), g 8 18 (by decide) (h 1 (by decide)), g 26 54 (by decide) (h 2 (by decide)), g 80 162 (by decide) (h 3 (by decide))⟩
/-- endsForbidden's loop: m lengths are left, the last one seen is i -/
def ff_efr (f : Nat → Int32) (w : Nat) : Nat → Nat → Bool
  | 0, _ => false
  | m + 1, i => (decide (3 ^ (i + 1) ≤ w) && ff_b f (3 ^ (i + 1) + w % 3 ^ (i + 1))) || ff_efr f w m (i + 1)
theorem ff_efr_4 (f : Nat → Int32) (w : Nat) : ff_efr f w 4 0 = ff_ef f w := by
  show ((decide (3 ≤ w) && ff_b f (3 + w % 3)) || ((decide (9 ≤ w) && ff_b f (9 + w % 9)) || ((decide (27 ≤ w) && ff_b f (27 + w % 27)) || ((decide (81 ≤ w) && ff_b f (81 + w % 81)) || false)))) = _
  rw [Bool.or_false]
  rfl
end
section
theorem ff_ps3 (i : Nat) : 3 ^ i * 3 = 3 ^ (i + 1) := by rw [ff_pS]; omega
theorem ff_or {c d A B : Prop} (h : c ∨ (¬ c ∧ d)) (a : A) : (c → A) ∧ (¬ c → ((d → A) ∧ (¬ d → B))) := by
  rcases h with h | ⟨h, h'⟩
  · exact br_t h a
  · exact br_f h (br_t h' a)
theorem ff_g0 {G : Nat → Nat} {i : Nat} (h : G i = 0) : nI (ff_sm G i) = nI (ff_sm G (i + 1)) := by
  show _ = nI (ff_sm G i + G i)
  rw [h]; rfl
theorem ff_g1 {G : Nat → Nat} {i : Nat} (h : G i = 1) : nI (ff_sm G i + 1) = nI (ff_sm G (i + 1)) := by
  show _ = nI (ff_sm G i + G i)
  rw [h]
theorem ff_ga {G : Nat → Nat} {i d : Nat} (h : G i = d) : nI (ff_sm G i + d) = nI (ff_sm G (i + 1)) := by
  show _ = nI (ff_sm G i + G i)
  rw [h]
theorem ff_i1 {b : Bool} (h : b = true) : ff_i b = 1 := by rw [h]; rfl
theorem ff_i0 {b : Bool} (h : b = false) : ff_i b = 0 := by rw [h]; rfl
theorem ff_r3 {r : Nat} (hr : r < 2 ^ 31) : nI r - nI r / 3 * 3 = nI (r % 3) := pk_rem (d := 3) hr (by decide) (by decide)
theorem ff_d3 {r : Nat} (hr : r < 2 ^ 31) : nI r / 3 = nI (r / 3) := pk_div (d := 3) hr (by decide) (by decide)
theorem ff_n3 : ¬ (3 : Int32) = 0 := by decide
theorem ff_n1 : ¬ (1 : Int32) = 0 := by decide
section
variable {fp : Int32} {fb : Nat → Int32} {wt lt : Nat → Int64}
theorem ff_Xpow {post : Int32 → Prop} {n : Nat} (hn : n < 2 ^ 31) (k : post (nI (3 ^ n))) : wpX_power post (nI n) := by
  unfold wpX_power
  refine pk_loop (fun m i (s : Int32) => wX_power_4 post (nI n) m s (nI i)) (fun i s => s = nI (3 ^ i)) n 0 1 (Nat.zero_le _) rfl (fun m s hs => ?_) (fun m i s hi hs hk => ?_)
  · obtain rfl : s = nI (3 ^ n) := hs
    exact br_t (nI_le (Nat.le_refl n) hn) k
  · obtain rfl : s = nI (3 ^ i) := hs
    exact br_f (nI_ge hi hn) (nm_r (pk_mul _ 3) (nm_r (nI_1 i) (hk _ (congrArg nI (ff_ps3 i)))))
theorem ff_XLbad {post : Int32 → Prop} {v : Int32} (h : v < 0 ∨ (¬ v < 0 ∧ nI 9 < v)) (k : post 0) : wpX_isLength post v := ff_or h k
theorem ff_XLok {post : Int32 → Prop} {n : Nat} (h : n ≤ 9) (k : post 1) : wpX_isLength post (nI n) :=
  br_f (nI_pos (by omega)) (br_f (nI_nlt (a := 9) (b := n) h (by decide)) k)
theorem ff_XCbad {post : Int32 → Prop} {n : Nat} {v : Int32} (hn : n ≤ 9) (h : v < 0 ∨ (¬ v < 0 ∧ nI (3 ^ n) ≤ v)) (k : post 0) : wpX_isCode post (nI n) v := by
  unfold wpX_isCode
  rcases h with h | ⟨h, h'⟩
  · exact br_t h k
  · refine br_f h (ff_Xpow (by omega) ?_)
    exact br_t h' k
theorem ff_XCok {post : Int32 → Prop} {n c : Nat} (hn : n ≤ 9) (hc : c < 3 ^ n) (k : post 1) : wpX_isCode post (nI n) (nI c) := by
  unfold wpX_isCode
  have hp := ff_p9 hn
  refine br_f (nI_pos (by omega)) (ff_Xpow (by omega) ?_)
  exact br_f (nI_ge hc (by omega)) k
theorem ff_Xpl_n {post : Int32 → Prop} {v : Int32} (h : ff_np v) (k : post 0) : ∀ m i fu : Nat, i + m = 4 → m < fu → wX_pieceLength_4 post v fu (nI (3 ^ i)) (nI (i + 1)) := by
  intro m
  induction m with
  | zero =>
    intro i fu hi hf
    obtain ⟨fu, rfl⟩ : ∃ a, fu = a + 1 := ⟨fu - 1, by omega⟩
    exact br_t (nI_lt (a := 4) (b := i + 1) (by omega) (by omega)) k
  | succ m ih =>
    intro i fu hi hf
    obtain ⟨fu, rfl⟩ : ∃ a, fu = a + 1 := ⟨fu - 1, by omega⟩
    have e : nI (3 ^ i) * 3 = nI (3 ^ (i + 1)) := (pk_mul _ 3).trans (congrArg nI (ff_ps3 i))
    refine br_f (nI_nlt (a := 4) (b := i + 1) (by omega) (by omega)) (nm_r e ?_)
    have hz := ih (i + 1) fu (by omega) (by omega)
    rcases h i (by omega) with h1 | ⟨h1, h2⟩
    · exact br_t h1 (nm_r (nI_1 (i + 1)) hz)
    · exact br_f h1 (br_t (by rw [show (2 : Int32) * nI (3 ^ (i + 1)) = nI (2 * 3 ^ (i + 1)) from pk_mul 2 _]; exact h2) (nm_r (nI_1 (i + 1)) hz))
theorem ff_Xpl_k {post : Int32 → Prop} {kk q : Nat} (h4 : kk ≤ 4) (hq : q < 3 ^ kk) (k : post (nI kk)) : ∀ m i fu : Nat, i + 1 + m = kk → m < fu → wX_pieceLength_4 post (nI (3 ^ kk + q)) fu (nI (3 ^ i)) (nI (i + 1)) := by
  have hp := ff_p4 h4
  intro m
  induction m with
  | zero =>
    intro i fu hi hf
    obtain ⟨fu, rfl⟩ : ∃ a, fu = a + 1 := ⟨fu - 1, by omega⟩
    have e : nI (3 ^ i) * 3 = nI (3 ^ (i + 1)) := (pk_mul _ 3).trans (congrArg nI (ff_ps3 i))
    obtain rfl : kk = i + 1 := by omega
    refine br_f (nI_nlt (a := 4) (b := i + 1) (by omega) (by omega)) (nm_r e ?_)
    refine br_f (nI_nlt (by omega) (by omega)) ?_
    refine br_f ?_ k
    rw [show (2 : Int32) * nI (3 ^ (i + 1)) = nI (2 * 3 ^ (i + 1)) from pk_mul 2 _]
    exact nI_ge (by omega) (by omega)
  | succ m ih =>
    intro i fu hi hf
    obtain ⟨fu, rfl⟩ : ∃ a, fu = a + 1 := ⟨fu - 1, by omega⟩
    have e : nI (3 ^ i) * 3 = nI (3 ^ (i + 1)) := (pk_mul _ 3).trans (congrArg nI (ff_ps3 i))
    have h3 : 3 ^ (i + 2) ≤ 3 ^ kk := Nat.pow_le_pow_right (by omega) (by omega)
    have h2 : 3 ^ (i + 2) = 3 * 3 ^ (i + 1) := ff_pS (i + 1)
    generalize hP : 3 ^ (i + 1) = P at e h2
    refine br_f (nI_nlt (a := 4) (b := i + 1) (by omega) (by omega)) (nm_r e ?_)
    refine br_f (nI_nlt (by omega) (by omega)) ?_
    refine br_t ?_ (nm_r (nI_1 (i + 1)) ?_)
    · rw [show (2 : Int32) * nI P = nI (2 * P) from pk_mul 2 _]
      exact nI_le (by omega) (by omega)
    · rw [← hP]
      exact ih (i + 1) fu (by omega) (by omega)
theorem ff_XplN {post : Int32 → Prop} {v : Int32} (h : ff_np v) (k : post 0) : wpX_pieceLength post v := ⟨5, ff_Xpl_n h k 4 0 5 rfl (by omega)⟩
theorem ff_Xpl {post : Int32 → Prop} {kk q : Nat} (h1 : 1 ≤ kk) (h4 : kk ≤ 4) (hq : q < 3 ^ kk) (k : post (nI kk)) : wpX_pieceLength post (nI (3 ^ kk + q)) := ⟨kk, ff_Xpl_k h4 hq k (kk - 1) 0 kk (by omega) (by omega)⟩
theorem ff_XpiN {post : Int32 → Prop} {v : Int32} (h : ff_np v) (k : post 0) : wpX_isPiece post v := by
  unfold wpX_isPiece
  refine ff_XplN h ?_
  exact br_t (Int32.le_refl _) k
theorem ff_Xpi {post : Int32 → Prop} {kk q : Nat} (h1 : 1 ≤ kk) (h4 : kk ≤ 4) (hq : q < 3 ^ kk) (k : post 1) : wpX_isPiece post (nI (3 ^ kk + q)) := by
  unfold wpX_isPiece
  refine ff_Xpl h1 h4 hq ?_
  exact br_f (nI_nle (by omega) (by omega)) k
theorem ff_Xef_l {post : Int32 → Prop} {w : Nat} (hw : w < 2 ^ 31) : ∀ m i fu : Nat, i + m = 4 → m < fu → post (ff_B (ff_efr fb w m i)) → wX_endsForbidden_4 post (nI w) fp fb wt lt fu (nI (3 ^ i)) (nI (i + 1)) := by
  intro m
  induction m with
  | zero =>
    intro i fu hi hf k
    obtain ⟨fu, rfl⟩ : ∃ a, fu = a + 1 := ⟨fu - 1, by omega⟩
    exact br_t (nI_lt (a := 4) (b := i + 1) (by omega) (by omega)) k
  | succ m ih =>
    intro i fu hi hf k
    obtain ⟨fu, rfl⟩ : ∃ a, fu = a + 1 := ⟨fu - 1, by omega⟩
    have e : nI (3 ^ i) * 3 = nI (3 ^ (i + 1)) := (pk_mul _ 3).trans (congrArg nI (ff_ps3 i))
    have hp : 3 ^ (i + 1) ≤ 81 := ff_p4 (by omega)
    have h0 : 0 < 3 ^ (i + 1) := ff_p3 _
    have hm : w % 3 ^ (i + 1) < 3 ^ (i + 1) := Nat.mod_lt _ h0
    have hz := fun k' => ih (i + 1) fu (by omega) (by omega) k'
    have ke : ff_efr fb w (m + 1) i = ((decide (3 ^ (i + 1) ≤ w) && ff_b fb (3 ^ (i + 1) + w % 3 ^ (i + 1))) || ff_efr fb w m (i + 1)) := rfl
    rw [ke] at k
    generalize 3 ^ (i + 1) = P at e hp h0 hm hz k
    have er : nI P + (nI w - nI w / nI P * nI P) = nI (P + w % P) := by rw [pk_rem hw h0 (by omega), nI_add]
    refine br_f (nI_nlt (a := 4) (b := i + 1) (by omega) (by omega)) (nm_r e ?_)
    refine pk_lt w P (fun h => nm_r (nI_1 (i + 1)) (hz ?_)) (fun h => ⟨nI_ne0 h0 (by omega), pk_in (P + w % P) 162 (by omega) er (by decide), ff_Fz (P + w % P) (fun hb => nm_r (nI_1 (i + 1)) (hz ?_)) (fun hb => ?_) er (by omega)⟩)
    · rw [decide_eq_false (by omega), Bool.false_and, Bool.false_or] at k
      exact k
    · rw [hb, Bool.and_false, Bool.false_or] at k
      exact k
    · rw [hb, decide_eq_true h, Bool.true_and, Bool.true_or] at k
      exact k
theorem ff_Xef {post : Int32 → Prop} {w : Nat} (hw : w < 2 ^ 31) (k : post (ff_B (ff_ef fb w))) : wpX_endsForbidden post (fp, fb, wt, lt) (nI w) :=
  ⟨5, ff_Xef_l hw 4 0 5 rfl (by omega) (by rw [ff_efr_4]; exact k)⟩
theorem ff_Xal_l {post : Int32 → Prop} {n : Nat} (hn : n ≤ 10) : ∀ m i w fu : Nat, i + m = n → m < fu → w < 2 ^ 31 → post (ff_B (ff_ok fb m w)) → wX_isAllowed_10 post (nI n) fp fb wt lt fu (nI w) (nI i) := by
  intro m
  induction m with
  | zero =>
    intro i w fu hi hf hw k
    obtain ⟨fu, rfl⟩ : ∃ a, fu = a + 1 := ⟨fu - 1, by omega⟩
    exact br_t (nI_le (by omega) (by omega)) k
  | succ m ih =>
    intro i w fu hi hf hw k
    obtain ⟨fu, rfl⟩ : ∃ a, fu = a + 1 := ⟨fu - 1, by omega⟩
    have ke : ff_ok fb (m + 1) w = (!ff_ef fb w && ff_ok fb m (w / 3)) := rfl
    rw [ke] at k
    refine br_f (nI_ge (by omega) (by omega)) (ff_Xef hw ?_)
    refine ff_Bz (fun h => ⟨ff_n3, nm_r (ff_d3 hw) (nm_r (nI_1 i) (ih (i + 1) (w / 3) fu (by omega) (by omega) (by omega) ?_))⟩) (fun h => ?_)
    · rw [h, Bool.not_false, Bool.true_and] at k
      exact k
    · rw [h, Bool.not_true, Bool.false_and] at k
      exact k
theorem ff_Xal {post : Int32 → Prop} {n c : Nat} (hn : n ≤ 10) (hc : c < 3 ^ n) (k : post (ff_B (ff_ok fb n (3 ^ n + c)))) : wpX_isAllowed post (fp, fb, wt, lt) (nI n) (nI c) := by
  have hp := ff_p10 hn
  unfold wpX_isAllowed
  dsimp only
  refine ff_Xpow (by omega) ?_
  exact nm_r (nI_add _ _) ⟨n + 1, ff_Xal_l hn n 0 _ _ (by omega) (by omega) (by omega) k⟩
theorem ff_Xzr_l {post : Int32 → Prop} {n : Nat} (hn : n ≤ 10) : ∀ m i r a fu : Nat, i + m = n → m < fu → r < 2 ^ 31 → post (nI (ff_zr m r a)) → wX_zeros_7 post (nI n) fu (nI r) (nI a) (nI i) := by
  intro m
  induction m with
  | zero =>
    intro i r a fu hi hf hr k
    obtain ⟨fu, rfl⟩ : ∃ a, fu = a + 1 := ⟨fu - 1, by omega⟩
    exact br_t (nI_le (by omega) (by omega)) k
  | succ m ih =>
    intro i r a fu hi hf hr k
    obtain ⟨fu, rfl⟩ : ∃ a, fu = a + 1 := ⟨fu - 1, by omega⟩
    have ke : ff_zr (m + 1) r a = ff_zr m (r / 3) (if r % 3 = 0 then a + 1 else a) := rfl
    rw [ke] at k
    refine br_f (nI_ge (by omega) (by omega)) ⟨ff_n3, pk_eq (r % 3) 0 (fun h => nm_r (nI_1 a) ⟨ff_n3, nm_r (ff_d3 hr) (nm_r (nI_1 i) (ih (i + 1) (r / 3) (a + 1) fu (by omega) (by omega) (by omega) ?_))⟩) (fun h => ⟨ff_n3, nm_r (ff_d3 hr) (nm_r (nI_1 i) (ih (i + 1) (r / 3) a fu (by omega) (by omega) (by omega) ?_))⟩) (ff_r3 hr) rfl (by omega) (by omega)⟩
    · rw [if_pos h] at k
      exact k
    · rw [if_neg h] at k
      exact k
theorem ff_Xzr {post : Int32 → Prop} {n c : Nat} (hn : n ≤ 10) (hc : c < 2 ^ 31) (k : post (nI (ff_zr n c 0))) : wpX_zeros post (nI n) (nI c) := ⟨n + 1, ff_Xzr_l hn n 0 c 0 (n + 1) (by omega) (by omega) hc k⟩
theorem ff_Xbw_l {post : Int32 → Prop} {n : Nat} (hn : n ≤ 10) : ∀ m i r a fu : Nat, i + m = n → m < fu → r < 2 ^ 31 → post (nI (ff_bw m r a)) → wX_backward_7 post (nI n) fu (nI r) (nI a) (nI i) := by
  intro m
  induction m with
  | zero =>
    intro i r a fu hi hf hr k
    obtain ⟨fu, rfl⟩ : ∃ a, fu = a + 1 := ⟨fu - 1, by omega⟩
    exact br_t (nI_le (by omega) (by omega)) k
  | succ m ih =>
    intro i r a fu hi hf hr k
    obtain ⟨fu, rfl⟩ : ∃ a, fu = a + 1 := ⟨fu - 1, by omega⟩
    have e : nI a * 3 + (nI r - nI r / 3 * 3) = nI (a * 3 + r % 3) := by rw [ff_r3 hr, show nI a * 3 = nI (a * 3) from pk_mul a 3, nI_add]
    exact br_f (nI_ge (by omega) (by omega)) ⟨ff_n3, nm_r e ⟨ff_n3, nm_r (ff_d3 hr) (nm_r (nI_1 i) (ih (i + 1) (r / 3) (a * 3 + r % 3) fu (by omega) (by omega) (by omega) k))⟩⟩
theorem ff_Xbw {post : Int32 → Prop} {n c : Nat} (hn : n ≤ 10) (hc : c < 2 ^ 31) (k : post (nI (ff_bw n c 0))) : wpX_backward post (nI n) (nI c) := ⟨n + 1, ff_Xbw_l hn n 0 c 0 (n + 1) (by omega) (by omega) hc k⟩
theorem ff_Xpw {post : Int32 → Prop} {n kk q a : Nat} (hn : n ≤ 9) (ha : a ≤ 9) (h1 : 1 ≤ kk) (h4 : kk ≤ 4) (hq : q < 3 ^ kk) (k : post (nI (ff_pw fb n kk q a))) : wpX_allowedWithPieceBefore post (fp, fb, wt, lt) (nI n) (nI (3 ^ kk + q)) (nI a) := by
  have hp := ff_p9 hn
  have hpa := ff_p9 ha
  have hpk := ff_p4 h4
  unfold wpX_allowedWithPieceBefore
  dsimp only
  refine ff_Xpow (n := n) (by omega) ?_
  refine ff_Xpow (n := a) (by omega) ?_
  refine ff_Xpl h1 h4 hq ?_
  refine ff_Xpow (n := kk) (by omega) ?_
  refine pk_loop (fun m i (s : Int32) => wX_allowedWithPieceBefore_31 post (nI n) (nI (3 ^ kk + q)) (nI (3 ^ n)) (nI (3 ^ a)) (nI (3 ^ kk)) fp fb wt lt m s (nI i)) (fun i s => s = nI (ff_sm (fun c => if (c / 3 ^ a) % 3 ^ kk = q then ff_i (ff_ok fb n (3 ^ n + c)) else 0) i)) (3 ^ n) 0 0 (Nat.zero_le _) rfl (fun m s hs => ?_) (fun m i s hi hs hk => ?_)
  · rw [hs]
    exact br_t (nI_le (Nat.le_refl _) (by omega)) k
  · rw [hs]
    have hd : i / 3 ^ a ≤ i := Nat.div_le_self _ _
    have hm : (i / 3 ^ a) % 3 ^ kk < 3 ^ kk := Nat.mod_lt _ (ff_p3 kk)
    have e : nI (3 ^ kk) + ((nI i / nI (3 ^ a)) - (nI i / nI (3 ^ a)) / nI (3 ^ kk) * nI (3 ^ kk)) = nI (3 ^ kk + (i / 3 ^ a) % 3 ^ kk) := by
      rw [pk_div (by omega) (ff_p3 a) (by omega), pk_rem (by omega) (ff_p3 kk) (by omega), nI_add]
    refine br_f (nI_ge hi (by omega)) ⟨nI_ne0 (ff_p3 a) (by omega), nI_ne0 (ff_p3 kk) (by omega), ?_⟩
    refine pk_eq (3 ^ kk + (i / 3 ^ a) % 3 ^ kk) (3 ^ kk + q) (fun h => ff_Xal (by omega) hi (ff_Bz (fun hb => nm_r (nI_1 i) (hk _ (ff_g0 ?_))) (fun hb => nm_r (nI_1 _) (nm_r (nI_1 i) (hk _ (ff_g1 ?_)))))) (fun h => nm_r (nI_1 i) (hk _ (ff_g0 ?_))) e rfl (by omega) (by omega)
    · show (if (i / 3 ^ a) % 3 ^ kk = q then _ else 0) = 0
      rw [if_pos (by omega), ff_i0 hb]
    · show (if (i / 3 ^ a) % 3 ^ kk = q then _ else 0) = 1
      rw [if_pos (by omega), ff_i1 hb]
    · show (if (i / 3 ^ a) % 3 ^ kk = q then _ else 0) = 0
      rw [if_neg (by omega)]
end
end
section
section
variable {hd : Int32} {fb : Nat → Int32} {nw lr : Nat → Int64}
theorem ff_Ypow {post : Int32 → Prop} {n : Nat} (hn : n < 2 ^ 31) (k : post (nI (3 ^ n))) : wpY_power post (hd, fb, nw, lr) (nI n) := by
  unfold wpY_power
  dsimp only
  refine pk_loop (fun m i (s : Int32) => wY_power_4 post (nI n) hd fb nw lr m s (nI i)) (fun i s => s = nI (3 ^ i)) n 0 1 (Nat.zero_le _) rfl (fun m s hs => ?_) (fun m i s hi hs hk => ?_)
  · obtain rfl : s = nI (3 ^ n) := hs
    exact br_t (nI_le (Nat.le_refl n) hn) k
  · obtain rfl : s = nI (3 ^ i) := hs
    exact br_f (nI_ge hi hn) (nm_r (pk_mul 3 _) (nm_r (nI_1 i) (hk _ (congrArg nI (ff_pS i).symm))))
theorem ff_YLbad {post : Int32 → Prop} {v : Int32} (h : v < 0 ∨ (¬ v < 0 ∧ nI 9 < v)) (k : post 1) : wpY_badLength post (hd, fb, nw, lr) v := by
  unfold wpY_badLength
  dsimp only
  rcases h with h | ⟨h, h'⟩
  · exact br_t h k
  · exact br_f h (br_f (ff_nle.mpr h') k)
theorem ff_YLok {post : Int32 → Prop} {n : Nat} (h : n ≤ 9) (k : post 0) : wpY_badLength post (hd, fb, nw, lr) (nI n) := by
  unfold wpY_badLength
  dsimp only
  exact br_f (nI_pos (by omega)) (br_t (nI_le (a := n) (b := 9) h (by decide)) k)
theorem ff_YCbad {post : Int32 → Prop} {n : Nat} {v : Int32} (hn : n ≤ 9) (h : v < 0 ∨ (¬ v < 0 ∧ nI (3 ^ n) ≤ v)) (k : post 1) : wpY_badCode post (hd, fb, nw, lr) (nI n) v := by
  unfold wpY_badCode
  dsimp only
  rcases h with h | ⟨h, h'⟩
  · exact br_t h k
  · refine br_f h (ff_Ypow (by omega) ?_)
    exact br_f (ff_nlt.mpr h') k
theorem ff_YCok {post : Int32 → Prop} {n c : Nat} (hn : n ≤ 9) (hc : c < 3 ^ n) (k : post 0) : wpY_badCode post (hd, fb, nw, lr) (nI n) (nI c) := by
  unfold wpY_badCode
  dsimp only
  have hp := ff_p9 hn
  refine br_f (nI_pos (by omega)) (ff_Ypow (by omega) ?_)
  exact br_t (nI_lt hc (by omega)) k
theorem ff_YleN {post : Int32 → Prop} {v : Int32} (h : ff_np v) (k : post 0) : wpY_letters post (hd, fb, nw, lr) v := by
  obtain ⟨h1, h2, h3, h4⟩ := ff_npY h
  unfold wpY_letters
  dsimp only
  refine ff_or h1 ?_
  unfold wY_letters_13
  refine ff_or h2 ?_
  unfold wY_letters_27
  refine ff_or h3 ?_
  unfold wY_letters_41
  exact ff_or h4 k
theorem ff_Yle1 {post : Int32 → Prop} {p : Nat} (a : 3 ≤ p) (b : p < 6) (k : post 1) : wpY_letters post (hd, fb, nw, lr) (nI p) := by
  unfold wpY_letters
  dsimp only
  exact br_f (nI_ge (a := 2) (b := p) (by omega) (by omega)) (br_f (nI_ge (a := p) (b := 6) (by omega) (by omega)) k)
theorem ff_Yle2 {post : Int32 → Prop} {p : Nat} (a : 9 ≤ p) (b : p < 18) (k : post 2) : wpY_letters post (hd, fb, nw, lr) (nI p) := by
  unfold wpY_letters
  dsimp only
  refine br_f (nI_ge (a := 2) (b := p) (by omega) (by omega)) (br_t (nI_le (a := 6) (b := p) (by omega) (by omega)) ?_)
  unfold wY_letters_13
  exact br_f (nI_ge (a := 8) (b := p) (by omega) (by omega)) (br_f (nI_ge (a := p) (b := 18) (by omega) (by omega)) k)
theorem ff_Yle3 {post : Int32 → Prop} {p : Nat} (a : 27 ≤ p) (b : p < 54) (k : post 3) : wpY_letters post (hd, fb, nw, lr) (nI p) := by
  unfold wpY_letters
  dsimp only
  refine br_f (nI_ge (a := 2) (b := p) (by omega) (by omega)) (br_t (nI_le (a := 6) (b := p) (by omega) (by omega)) ?_)
  unfold wY_letters_13
  refine br_f (nI_ge (a := 8) (b := p) (by omega) (by omega)) (br_t (nI_le (a := 18) (b := p) (by omega) (by omega)) ?_)
  unfold wY_letters_27
  exact br_f (nI_ge (a := 26) (b := p) (by omega) (by omega)) (br_f (nI_ge (a := p) (b := 54) (by omega) (by omega)) k)
theorem ff_Yle4 {post : Int32 → Prop} {p : Nat} (a : 81 ≤ p) (b : p < 162) (k : post 4) : wpY_letters post (hd, fb, nw, lr) (nI p) := by
  unfold wpY_letters
  dsimp only
  refine br_f (nI_ge (a := 2) (b := p) (by omega) (by omega)) (br_t (nI_le (a := 6) (b := p) (by omega) (by omega)) ?_)
  unfold wY_letters_13
  refine br_f (nI_ge (a := 8) (b := p) (by omega) (by omega)) (br_t (nI_le (a := 18) (b := p) (by omega) (by omega)) ?_)
  unfold wY_letters_27
  refine br_f (nI_ge (a := 26) (b := p) (by omega) (by omega)) (br_t (nI_le (a := 54) (b := p) (by omega) (by omega)) ?_)
  unfold wY_letters_41
  exact br_f (nI_ge (a := 80) (b := p) (by omega) (by omega)) (br_f (nI_ge (a := p) (b := 162) (by omega) (by omega)) k)
theorem ff_Yle {post : Int32 → Prop} {kk q : Nat} (h1 : 1 ≤ kk) (h4 : kk ≤ 4) (hq : q < 3 ^ kk) (k : post (nI kk)) : wpY_letters post (hd, fb, nw, lr) (nI (3 ^ kk + q)) := by
  match kk, h1, h4, hq, k with
  | 1, _, _, hq, k =>
    have hq : q < 3 := hq
    exact ff_Yle1 (p := 3 ^ 1 + q) (by omega) (by omega) k
  | 2, _, _, hq, k =>
    have hq : q < 9 := hq
    exact ff_Yle2 (p := 3 ^ 2 + q) (by omega) (by omega) k
  | 3, _, _, hq, k =>
    have hq : q < 27 := hq
    exact ff_Yle3 (p := 3 ^ 3 + q) (by omega) (by omega) k
  | 4, _, _, hq, k =>
    have hq : q < 81 := hq
    exact ff_Yle4 (p := 3 ^ 4 + q) (by omega) (by omega) k
theorem ff_Yg71 {post : Int32 → Prop} {J : Int32 → Int32 → Prop} {m r : Nat} (hr : r < 2 ^ 31) (hm : m ≤ 10) (kt : (decide (3 ≤ m) && ff_b fb (81 + r % 81)) = true → post 0) (kf : (decide (3 ≤ m) && ff_b fb (81 + r % 81)) = false → J (nI (r / 3)) (nI m)) : wY_good_71 post J (nI r) (nI (m + 1)) hd fb nw lr := by
  have e : 81 + (nI r - nI r / 81 * 81) = nI (81 + r % 81) := by
    rw [show nI r - nI r / 81 * 81 = nI (r % 81) from pk_rem (d := 81) hr (by decide) (by decide)]; exact nI_add 81 _
  unfold wY_good_71
  refine pk_le (m + 1) 3 (fun h => ⟨ff_n3, nm_r (ff_d3 hr) (nm_r (pk_m1 m) (kf ?_))⟩) (fun h => ⟨by decide, pk_in (81 + r % 81) 162 (by omega) e (by decide), ff_Fz (81 + r % 81) (fun hb => ⟨ff_n3, nm_r (ff_d3 hr) (nm_r (pk_m1 m) (kf ?_))⟩) (fun hb => kt ?_) e (by omega)⟩)
  · rw [decide_eq_false (by omega), Bool.false_and]
  · rw [hb, Bool.and_false]
  · rw [hb, decide_eq_true (by omega), Bool.true_and]
theorem ff_Yg48 {post : Int32 → Prop} {J : Int32 → Int32 → Prop} {m r : Nat} (hr : r < 2 ^ 31) (hm : m ≤ 10) (kt : ((decide (2 ≤ m) && ff_b fb (27 + r % 27)) || (decide (3 ≤ m) && ff_b fb (81 + r % 81))) = true → post 0) (kf : ((decide (2 ≤ m) && ff_b fb (27 + r % 27)) || (decide (3 ≤ m) && ff_b fb (81 + r % 81))) = false → J (nI (r / 3)) (nI m)) : wY_good_48 post J (nI r) (nI (m + 1)) hd fb nw lr := by
  have e : 27 + (nI r - nI r / 27 * 27) = nI (27 + r % 27) := by
    rw [show nI r - nI r / 27 * 27 = nI (r % 27) from pk_rem (d := 27) hr (by decide) (by decide)]; exact nI_add 27 _
  have hz : (decide (2 ≤ m) && ff_b fb (27 + r % 27)) = false → wY_good_71 post J (nI r) (nI (m + 1)) hd fb nw lr := by
    intro h
    rw [h, Bool.false_or] at kt kf
    exact ff_Yg71 hr hm kt kf
  unfold wY_good_48
  refine pk_le (m + 1) 2 (fun h => hz ?_) (fun h => ⟨by decide, pk_in (27 + r % 27) 162 (by omega) e (by decide), ff_Fz (27 + r % 27) (fun hb => hz ?_) (fun hb => kt ?_) e (by omega)⟩)
  · rw [decide_eq_false (by omega), Bool.false_and]
  · rw [hb, Bool.and_false]
  · rw [hb, decide_eq_true (by omega), Bool.true_and, Bool.true_or]
theorem ff_Ygd_l {post : Int32 → Prop} : ∀ m r fu : Nat, m < fu → m ≤ 10 → r < 3 ^ m → post (ff_B (ff_ok fb m (3 ^ m + r))) → wY_good_5 post hd fb nw lr fu (nI r) (nI m) := by
  intro m
  induction m with
  | zero =>
    intro r fu hf _ _ k
    obtain ⟨fu, rfl⟩ : ∃ a, fu = a + 1 := ⟨fu - 1, by omega⟩
    exact br_t (Int32.le_refl _) k
  | succ m ih =>
    intro r fu hf hm hr k
    obtain ⟨fu, rfl⟩ : ∃ a, fu = a + 1 := ⟨fu - 1, by omega⟩
    have hp : 3 ^ (m + 1) ≤ 59049 := ff_p10 hm
    have hr31 : r < 2 ^ 31 := by omega
    have hdv : (3 ^ (m + 1) + r) / 3 = 3 ^ m + r / 3 := by have := ff_pS m; omega
    have hr3 : r / 3 < 3 ^ m := by have := ff_pS m; omega
    have ke : ff_ok fb (m + 1) (3 ^ (m + 1) + r) = (!ff_ef fb (3 ^ (m + 1) + r) && ff_ok fb m ((3 ^ (m + 1) + r) / 3)) := rfl
    rw [ke, hdv, ff_ef_y fb hr] at k
    have e1 : 3 + (nI r - nI r / 3 * 3) = nI (3 + r % 3) := by
      rw [ff_r3 hr31]; exact nI_add 3 _
    have e2 : 9 + (nI r - nI r / 9 * 9) = nI (9 + r % 9) := by
      rw [show nI r - nI r / 9 * 9 = nI (r % 9) from pk_rem (d := 9) hr31 (by decide) (by decide)]; exact nI_add 9 _
    have hz : ff_b fb (3 + r % 3) = false → (decide (1 ≤ m) && ff_b fb (9 + r % 9)) = false → wY_good_48 post (wY_good_5 post hd fb nw lr fu) (nI r) (nI (m + 1)) hd fb nw lr := by
      intro h1 h2
      rw [h1, h2, Bool.false_or, Bool.false_or] at k
      refine ff_Yg48 hr31 (by omega) (fun h => ?_) (fun h => ih (r / 3) fu (by omega) (by omega) hr3 ?_)
      · rw [h, Bool.not_true, Bool.false_and] at k
        exact k
      · rw [h, Bool.not_false, Bool.true_and] at k
        exact k
    refine br_f (nI_nle (by omega) (by omega)) ⟨ff_n3, pk_in (3 + r % 3) 162 (by omega) e1 (by decide), ff_Fz (3 + r % 3) (fun h1 => ?_) (fun h1 => ?_) e1 (by omega)⟩
    · refine pk_le (m + 1) 1 (fun h => hz h1 ?_) (fun h => ⟨by decide, pk_in (9 + r % 9) 162 (by omega) e2 (by decide), ff_Fz (9 + r % 9) (fun h2 => hz h1 ?_) (fun h2 => ?_) e2 (by omega)⟩)
      · rw [decide_eq_false (by omega), Bool.false_and]
      · rw [h2, Bool.and_false]
      · rw [h2, decide_eq_true (show 1 ≤ m by omega), Bool.true_and, Bool.true_or, Bool.or_true, Bool.not_true, Bool.false_and] at k
        exact k
    · rw [h1, Bool.true_or, Bool.not_true, Bool.false_and] at k
      exact k
theorem ff_Ygd {post : Int32 → Prop} {n c : Nat} (hn : n ≤ 10) (hc : c < 3 ^ n) (k : post (ff_B (ff_ok fb n (3 ^ n + c)))) : wpY_good post (hd, fb, nw, lr) (nI n) (nI c) := ⟨n + 1, ff_Ygd_l n c (n + 1) (by omega) hn hc k⟩
theorem ff_Yzr_l {post : Int32 → Prop} {n : Nat} (hn : n ≤ 10) : ∀ m i r a fu : Nat, i + m = n → m < fu → r < 2 ^ 31 → post (nI (ff_zr m r a)) → wY_zeros_8 post (nI n) hd fb nw lr fu (nI r) (nI a) (nI i) := by
  intro m
  induction m with
  | zero =>
    intro i r a fu hi hf hr k
    obtain ⟨fu, rfl⟩ : ∃ a, fu = a + 1 := ⟨fu - 1, by omega⟩
    exact br_t (nI_le (by omega) (by omega)) k
  | succ m ih =>
    intro i r a fu hi hf hr k
    obtain ⟨fu, rfl⟩ : ∃ a, fu = a + 1 := ⟨fu - 1, by omega⟩
    have ke : ff_zr (m + 1) r a = ff_zr m (r / 3) (if r % 3 = 0 then a + 1 else a) := rfl
    rw [ke] at k
    refine br_f (nI_ge (by omega) (by omega)) ⟨ff_n3, pk_eq (r % 3) 0 (fun h => nm_r (nI_1 a) ⟨ff_n3, nm_r (ff_d3 hr) (nm_r (nI_1 i) (ih (i + 1) (r / 3) (a + 1) fu (by omega) (by omega) (by omega) ?_))⟩) (fun h => ⟨ff_n3, nm_r (ff_d3 hr) (nm_r (nI_1 i) (ih (i + 1) (r / 3) a fu (by omega) (by omega) (by omega) ?_))⟩) (ff_r3 hr) rfl (by omega) (by omega)⟩
    · rw [if_pos h] at k
      exact k
    · rw [if_neg h] at k
      exact k
theorem ff_Yzr {post : Int32 → Prop} {n c : Nat} (hn : n ≤ 10) (hc : c < 2 ^ 31) (k : post (nI (ff_zr n c 0))) : wpY_zeros post (hd, fb, nw, lr) (nI n) (nI c) := ⟨n + 1, ff_Yzr_l hn n 0 c 0 (n + 1) (by omega) (by omega) hc k⟩
theorem ff_Ybw_l {post : Int32 → Prop} {n : Nat} (hn : n ≤ 10) : ∀ m i r a fu : Nat, i + m = n → m < fu → r < 2 ^ 31 → post (nI (ff_bw m r a)) → wY_backward_8 post (nI n) hd fb nw lr fu (nI r) (nI a) (nI i) := by
  intro m
  induction m with
  | zero =>
    intro i r a fu hi hf hr k
    obtain ⟨fu, rfl⟩ : ∃ a, fu = a + 1 := ⟨fu - 1, by omega⟩
    exact br_t (nI_le (by omega) (by omega)) k
  | succ m ih =>
    intro i r a fu hi hf hr k
    obtain ⟨fu, rfl⟩ : ∃ a, fu = a + 1 := ⟨fu - 1, by omega⟩
    have e : 3 * nI a + (nI r - nI r / 3 * 3) = nI (a * 3 + r % 3) := by rw [ff_r3 hr, show 3 * nI a = nI (a * 3) from (pk_mul 3 a).trans (congrArg nI (Nat.mul_comm 3 a)), nI_add]
    exact br_f (nI_ge (by omega) (by omega)) ⟨ff_n3, nm_r e ⟨ff_n3, nm_r (ff_d3 hr) (nm_r (nI_1 i) (ih (i + 1) (r / 3) (a * 3 + r % 3) fu (by omega) (by omega) (by omega) k))⟩⟩
theorem ff_Ybw {post : Int32 → Prop} {n c : Nat} (hn : n ≤ 10) (hc : c < 2 ^ 31) (k : post (nI (ff_bw n c 0))) : wpY_backward post (hd, fb, nw, lr) (nI n) (nI c) := ⟨n + 1, ff_Ybw_l hn n 0 c 0 (n + 1) (by omega) (by omega) hc k⟩
theorem ff_Yst {post : Int32 → Prop} {l r kk q : Nat} (hl : l ≤ 10) (hr : r < 2 ^ 31) (h4 : kk ≤ 4) (hq : q < 3 ^ kk) (k : post (ff_B (decide (kk ≤ l ∧ r % 3 ^ kk = q)))) : wpY_stands post (hd, fb, nw, lr) (nI l) (nI r) (nI (3 ^ kk + q)) (nI kk) := by
  have hp := ff_p4 h4
  have h0 := ff_p3 kk
  have e2 : nI (3 ^ kk + q) - nI (3 ^ kk) = nI q := (pk_sub (Nat.le_add_right _ _)).trans (congrArg nI (Nat.add_sub_cancel_left _ _))
  have hm : r % 3 ^ kk < 3 ^ kk := Nat.mod_lt _ h0
  unfold wpY_stands
  dsimp only
  refine ff_Ypow (by omega) ?_
  refine pk_lt l kk (fun h => ?_) (fun h => br_f (nI_nle h0 (by omega)) ⟨nI_ne0 h0 (by omega), pk_eq (r % 3 ^ kk) q (fun e => ?_) (fun e => ?_) (pk_rem hr h0 (by omega)) e2 (by omega) (by omega)⟩)
  · rw [decide_eq_false (fun z => by have := z.1; omega)] at k
    exact k
  · rw [decide_eq_true ⟨h, e⟩] at k
    exact k
  · rw [decide_eq_false (fun z => e z.2)] at k
    exact k
theorem ff_Ypc_l {post : Int32 → Prop} {kk q : Nat} (h4 : kk ≤ 4) (hq : q < 3 ^ kk) : ∀ m r a fu : Nat, m < fu → m ≤ 10 → r < 2 ^ 31 → post (nI (a + ff_pc kk q m r)) → wY_places_9 post (nI (3 ^ kk + q)) (nI kk) hd fb nw lr fu (nI r) (nI a) (nI m) := by
  intro m
  induction m with
  | zero =>
    intro r a fu hf _ _ k
    obtain ⟨fu, rfl⟩ : ∃ a, fu = a + 1 := ⟨fu - 1, by omega⟩
    exact br_t (Int32.le_refl _) k
  | succ m ih =>
    intro r a fu hf hm hr k
    obtain ⟨fu, rfl⟩ : ∃ a, fu = a + 1 := ⟨fu - 1, by omega⟩
    have ke : ff_pc kk q (m + 1) r = (if kk ≤ m + 1 ∧ r % 3 ^ kk = q then 1 else 0) + ff_pc kk q m (r / 3) := rfl
    rw [ke] at k
    refine br_f (nI_nle (by omega) (by omega)) (ff_Yst hm hr h4 hq ?_)
    refine ff_Bz (fun h => ⟨ff_n3, nm_r (ff_d3 hr) (nm_r (pk_m1 m) (ih (r / 3) a fu (by omega) (by omega) (by omega) ?_))⟩) (fun h => nm_r (nI_1 a) ⟨ff_n3, nm_r (ff_d3 hr) (nm_r (pk_m1 m) (ih (r / 3) (a + 1) fu (by omega) (by omega) (by omega) ?_))⟩)
    · rw [if_neg (of_decide_eq_false h), Nat.zero_add] at k
      exact k
    · rw [if_pos (of_decide_eq_true h), ← Nat.add_assoc] at k
      exact k
theorem ff_Ypc {post : Int32 → Prop} {n c kk q : Nat} (h4 : kk ≤ 4) (hq : q < 3 ^ kk) (hn : n ≤ 10) (hc : c < 2 ^ 31) (k : post (nI (ff_pc kk q n c))) : wpY_places post (hd, fb, nw, lr) (nI n) (nI c) (nI (3 ^ kk + q)) (nI kk) := ⟨n + 1, ff_Ypc_l h4 hq n c 0 (n + 1) (by omega) hn hc (by rw [Nat.zero_add]; exact k)⟩
theorem ff_Ypl {post : Int32 → Prop} {n : Nat} (hn : n ≤ 9) (k : post (nI (ff_tot fb n))) : wpY_plainCount post (hd, fb, nw, lr) (nI n) := by
  have hp := ff_p9 hn
  unfold wpY_plainCount
  dsimp only
  refine ff_Ypow (by omega) ?_
  refine pk_loop (fun m i (s : Int32) => wY_plainCount_11 post (nI n) (nI (3 ^ n)) hd fb nw lr m s (nI i)) (fun i s => s = nI (ff_sm (fun c => ff_i (ff_ok fb n (3 ^ n + c))) i)) (3 ^ n) 0 0 (Nat.zero_le _) rfl (fun m s hs => ?_) (fun m i s hi hs hk => ?_)
  · rw [hs]
    exact br_t (nI_le (Nat.le_refl _) (by omega)) k
  · rw [hs]
    exact br_f (nI_ge hi (by omega)) (ff_Ygd (by omega) hi (ff_Bz (fun hb => nm_r (nI_1 i) (hk _ (ff_g0 (ff_i0 hb)))) (fun hb => nm_r (nI_1 _) (nm_r (nI_1 i) (hk _ (ff_g1 (ff_i1 hb)))))))
end
end
section
section
variable {fp : Int32} {fb : Nat → Int32} {wt lt nw lr : Nat → Int64}
theorem ff_allowed (v1 v2 : Int32) : ∃ r : Int32, (∀ post : Int32 → Prop, post r → wpX_allowed post (fp, fb, wt, lt) v1 v2) ∧ (∀ post : Int32 → Prop, post r → wpY_allowed post (fp, fb, nw, lr) v1 v2) := by
  rcases ff_ixN v1 9 (by decide) with h | ⟨n, hn, rfl⟩
  · refine ⟨-1, fun post k => ?_, fun post k => ?_⟩
    · unfold wpX_allowed; dsimp only
      exact ff_XLbad h (br_t rfl k)
    · unfold wpY_allowed; dsimp only
      exact ff_YLbad h (br_f ff_n1 k)
  have hp := ff_p9 hn
  rcases ff_ixC v2 (3 ^ n) (by omega) with h | ⟨c, hc, rfl⟩
  · refine ⟨-2, fun post k => ?_, fun post k => ?_⟩
    · unfold wpX_allowed; dsimp only
      refine ff_XLok hn (br_f ff_n1 (ff_XCbad hn h ?_))
      exact br_t rfl k
    · unfold wpY_allowed; dsimp only
      refine ff_YLok hn (br_t rfl (ff_YCbad hn h ?_))
      exact br_f ff_n1 k
  · refine ⟨ff_B (ff_ok fb n (3 ^ n + c)), fun post k => ?_, fun post k => ?_⟩
    · unfold wpX_allowed; dsimp only
      refine ff_XLok hn (br_f ff_n1 (ff_XCok hn hc ?_))
      refine br_f ff_n1 (ff_Xal (by omega) hc ?_)
      exact ff_Bz (fun h => by rw [h] at k; exact k) (fun h => by rw [h] at k; exact k)
    · unfold wpY_allowed; dsimp only
      refine ff_YLok hn (br_t rfl (ff_YCok hn hc ?_))
      refine br_t rfl (ff_Ygd (by omega) hc ?_)
      exact ff_Bz (fun h => by rw [h] at k; exact k) (fun h => by rw [h] at k; exact k)
theorem ff_countWith (v1 v2 : Int32) : ∃ r : Int32, (∀ post : Int32 → Prop, post r → wpX_countWith post (fp, fb, wt, lt) v1 v2) ∧ (∀ post : Int32 → Prop, post r → wpY_countWith post (fp, fb, nw, lr) v1 v2) := by
  rcases ff_ixN v1 9 (by decide) with h | ⟨n, hn, rfl⟩
  · refine ⟨-1, fun post k => ?_, fun post k => ?_⟩
    · unfold wpX_countWith; dsimp only
      exact ff_XLbad h (br_t rfl k)
    · unfold wpY_countWith; dsimp only
      exact ff_YLbad h (br_f ff_n1 k)
  have hp := ff_p9 hn
  by_cases a : v2 < 0
  · refine ⟨-2, fun post k => ?_, fun post k => ?_⟩
    · unfold wpX_countWith; dsimp only
      refine ff_XLok hn (br_f ff_n1 ?_)
      exact br_t a k
    · unfold wpY_countWith; dsimp only
      refine ff_YLok hn (br_t rfl ?_)
      exact br_t a k
  by_cases b : v2 ≤ 9
  · refine ⟨nI (ff_sm (fun c => if nI (ff_zr n c 0) = v2 then ff_i (ff_ok fb n (3 ^ n + c)) else 0) (3 ^ n)), fun post k => ?_, fun post k => ?_⟩
    · unfold wpX_countWith; dsimp only
      refine ff_XLok hn (br_f ff_n1 (br_f a (br_t b (ff_Xpow (by omega) ?_))))
      refine pk_loop (fun m i (s : Int32) => wX_countWith_33 post (nI n) v2 (nI (3 ^ n)) fp fb wt lt m s (nI i)) (fun i s => s = nI (ff_sm (fun c => if nI (ff_zr n c 0) = v2 then ff_i (ff_ok fb n (3 ^ n + c)) else 0) i)) (3 ^ n) 0 0 (Nat.zero_le _) rfl (fun m s hs => ?_) (fun m i s hi hs hk => ?_)
      · rw [hs]
        exact br_t (nI_le (Nat.le_refl _) (by omega)) k
      · rw [hs]
        refine br_f (nI_ge hi (by omega)) (ff_Xzr (by omega) (by omega) ?_)
        refine br_c (fun h => ff_Xal (by omega) hi (ff_Bz (fun hb => nm_r (nI_1 i) (hk _ (ff_g0 ?_))) (fun hb => nm_r (nI_1 _) (nm_r (nI_1 i) (hk _ (ff_g1 ?_)))))) (fun h => nm_r (nI_1 i) (hk _ (ff_g0 (if_neg h))))
        · show (if nI (ff_zr n i 0) = v2 then _ else 0) = 0
          rw [if_pos h, ff_i0 hb]
        · show (if nI (ff_zr n i 0) = v2 then _ else 0) = 1
          rw [if_pos h, ff_i1 hb]
    · unfold wpY_countWith; dsimp only
      refine ff_YLok hn (br_t rfl (br_f a (br_t b (ff_Ypow (by omega) ?_))))
      refine pk_loop (fun m i (s : Int32) => wY_countWith_35 post (nI n) v2 (nI (3 ^ n)) fp fb nw lr m s (nI i)) (fun i s => s = nI (ff_sm (fun c => if nI (ff_zr n c 0) = v2 then ff_i (ff_ok fb n (3 ^ n + c)) else 0) i)) (3 ^ n) 0 0 (Nat.zero_le _) rfl (fun m s hs => ?_) (fun m i s hi hs hk => ?_)
      · rw [hs]
        exact br_t (nI_le (Nat.le_refl _) (by omega)) k
      · rw [hs]
        refine br_f (nI_ge hi (by omega)) (ff_Yzr (by omega) (by omega) ?_)
        refine br_c (fun h => ff_Ygd (by omega) hi (ff_Bz (fun hb => nm_r (nI_1 i) (hk _ (ff_g0 ?_))) (fun hb => nm_r (nI_1 _) (nm_r (nI_1 i) (hk _ (ff_g1 ?_)))))) (fun h => nm_r (nI_1 i) (hk _ (ff_g0 (if_neg h))))
        · show (if nI (ff_zr n i 0) = v2 then _ else 0) = 0
          rw [if_pos h, ff_i0 hb]
        · show (if nI (ff_zr n i 0) = v2 then _ else 0) = 1
          rw [if_pos h, ff_i1 hb]
  · refine ⟨-2, fun post k => ?_, fun post k => ?_⟩
    · unfold wpX_countWith; dsimp only
      refine ff_XLok hn (br_f ff_n1 ?_)
      exact br_f a (br_f b k)
    · unfold wpY_countWith; dsimp only
      refine ff_YLok hn (br_t rfl ?_)
      exact br_f a (br_f b k)
theorem ff_rank (v1 v2 : Int32) : ∃ r : Int32, (∀ post : Int32 → Prop, post r → wpX_rank post (fp, fb, wt, lt) v1 v2) ∧ (∀ post : Int32 → Prop, post r → wpY_rank post (fp, fb, nw, lr) v1 v2) := by
  rcases ff_ixN v1 9 (by decide) with h | ⟨n, hn, rfl⟩
  · refine ⟨-1, fun post k => ?_, fun post k => ?_⟩
    · unfold wpX_rank; dsimp only
      exact ff_XLbad h (br_t rfl k)
    · unfold wpY_rank; dsimp only
      exact ff_YLbad h (br_f ff_n1 k)
  have hp := ff_p9 hn
  rcases ff_ixC v2 (3 ^ n) (by omega) with h | ⟨c, hc, rfl⟩
  · refine ⟨-2, fun post k => ?_, fun post k => ?_⟩
    · unfold wpX_rank; dsimp only
      refine ff_XLok hn (br_f ff_n1 (ff_XCbad hn h ?_))
      exact br_t rfl k
    · unfold wpY_rank; dsimp only
      refine ff_YLok hn (br_t rfl (ff_YCbad hn h ?_))
      exact br_f ff_n1 k
  · refine ⟨nI (ff_sm (fun c => ff_i (ff_ok fb n (3 ^ n + c))) c), fun post k => ?_, fun post k => ?_⟩
    · unfold wpX_rank; dsimp only
      refine ff_XLok hn (br_f ff_n1 (ff_XCok hn hc ?_))
      refine br_f ff_n1 ?_
      refine pk_loop (fun m i (s : Int32) => wX_rank_25 post (nI n) (nI c) fp fb wt lt m s (nI i)) (fun i s => s = nI (ff_sm (fun c => ff_i (ff_ok fb n (3 ^ n + c))) i)) c 0 0 (Nat.zero_le _) rfl (fun m s hs => ?_) (fun m i s hi hs hk => ?_)
      · rw [hs]
        exact br_t (nI_le (Nat.le_refl _) (by omega)) k
      · rw [hs]
        exact br_f (nI_ge hi (by omega)) (ff_Xal (by omega) (by omega) (ff_Bz (fun hb => nm_r (nI_1 i) (hk _ (ff_g0 (ff_i0 hb)))) (fun hb => nm_r (nI_1 _) (nm_r (nI_1 i) (hk _ (ff_g1 (ff_i1 hb)))))))
    · unfold wpY_rank; dsimp only
      refine ff_YLok hn (br_t rfl (ff_YCok hn hc ?_))
      refine br_t rfl ?_
      refine pk_loop (fun m i (s : Int32) => wY_rank_27 post (nI n) (nI c) fp fb nw lr m s (nI i)) (fun i s => s = nI (ff_sm (fun c => ff_i (ff_ok fb n (3 ^ n + c))) i)) c 0 0 (Nat.zero_le _) rfl (fun m s hs => ?_) (fun m i s hi hs hk => ?_)
      · rw [hs]
        exact br_t (nI_le (Nat.le_refl _) (by omega)) k
      · rw [hs]
        exact br_f (nI_ge hi (by omega)) (ff_Ygd (by omega) (by omega) (ff_Bz (fun hb => nm_r (nI_1 i) (hk _ (ff_g0 (ff_i0 hb)))) (fun hb => nm_r (nI_1 _) (nm_r (nI_1 i) (hk _ (ff_g1 (ff_i1 hb)))))))
theorem ff_Xwd_l {post : Int32 → Prop} {n : Nat} {v : Int32} (hn : n ≤ 9) : ∀ m c a fu : Nat, c + m = 3 ^ n → m < fu → post (ff_wd fb n v m c a) → wX_word_20 post (nI n) v (nI (3 ^ n)) fp fb wt lt fu (nI a) (nI c) := by
  have hp := ff_p9 hn
  intro m
  induction m with
  | zero =>
    intro c a fu hi hf k
    obtain ⟨fu, rfl⟩ : ∃ a, fu = a + 1 := ⟨fu - 1, by omega⟩
    exact br_t (nI_le (by omega) (by omega)) k
  | succ m ih =>
    intro c a fu hi hf k
    obtain ⟨fu, rfl⟩ : ∃ a, fu = a + 1 := ⟨fu - 1, by omega⟩
    have ke : ff_wd fb n v (m + 1) c a = if ff_ok fb n (3 ^ n + c) = true then (if nI a = v then nI c else ff_wd fb n v m (c + 1) (a + 1)) else ff_wd fb n v m (c + 1) a := rfl
    rw [ke] at k
    refine br_f (nI_ge (by omega) (by omega)) (ff_Xal (by omega) (by omega) (ff_Bz (fun hb => nm_r (nI_1 c) (ih (c + 1) a fu (by omega) (by omega) ?_)) (fun hb => br_c (fun h => ?_) (fun h => nm_r (nI_1 a) (nm_r (nI_1 c) (ih (c + 1) (a + 1) fu (by omega) (by omega) ?_))))))
    · rw [if_neg (by rw [hb]; decide)] at k
      exact k
    · rw [if_pos hb, if_pos h] at k
      exact k
    · rw [if_pos hb, if_neg h] at k
      exact k
theorem ff_Ywd_l {post : Int32 → Prop} {n : Nat} {v : Int32} (hn : n ≤ 9) : ∀ m c a fu : Nat, c + m = 3 ^ n → m < fu → post (ff_wd fb n v m c a) → wY_word_22 post (nI n) v (nI (3 ^ n)) fp fb nw lr fu (nI a) (nI c) := by
  have hp := ff_p9 hn
  intro m
  induction m with
  | zero =>
    intro c a fu hi hf k
    obtain ⟨fu, rfl⟩ : ∃ a, fu = a + 1 := ⟨fu - 1, by omega⟩
    exact br_t (nI_le (by omega) (by omega)) k
  | succ m ih =>
    intro c a fu hi hf k
    obtain ⟨fu, rfl⟩ : ∃ a, fu = a + 1 := ⟨fu - 1, by omega⟩
    have ke : ff_wd fb n v (m + 1) c a = if ff_ok fb n (3 ^ n + c) = true then (if nI a = v then nI c else ff_wd fb n v m (c + 1) (a + 1)) else ff_wd fb n v m (c + 1) a := rfl
    rw [ke] at k
    refine br_f (nI_ge (by omega) (by omega)) (ff_Ygd (by omega) (by omega) (ff_Bz (fun hb => nm_r (nI_1 c) (ih (c + 1) a fu (by omega) (by omega) ?_)) (fun hb => br_c (fun h => ?_) (fun h => nm_r (nI_1 a) (nm_r (nI_1 c) (ih (c + 1) (a + 1) fu (by omega) (by omega) ?_))))))
    · rw [if_neg (by rw [hb]; decide)] at k
      exact k
    · rw [if_pos hb, if_pos h] at k
      exact k
    · rw [if_pos hb, if_neg h] at k
      exact k
theorem ff_word (v1 v2 : Int32) : ∃ r : Int32, (∀ post : Int32 → Prop, post r → wpX_word post (fp, fb, wt, lt) v1 v2) ∧ (∀ post : Int32 → Prop, post r → wpY_word post (fp, fb, nw, lr) v1 v2) := by
  rcases ff_ixN v1 9 (by decide) with h | ⟨n, hn, rfl⟩
  · refine ⟨-1, fun post k => ?_, fun post k => ?_⟩
    · unfold wpX_word; dsimp only
      exact ff_XLbad h (br_t rfl k)
    · unfold wpY_word; dsimp only
      exact ff_YLbad h (br_f ff_n1 k)
  · refine ⟨ff_wd fb n v2 (3 ^ n) 0 0, fun post k => ?_, fun post k => ?_⟩
    · unfold wpX_word; dsimp only
      refine ff_XLok hn (br_f ff_n1 (ff_Xpow (by omega) ?_))
      exact ⟨3 ^ n + 1, ff_Xwd_l hn (3 ^ n) 0 0 _ (by omega) (by omega) k⟩
    · unfold wpY_word; dsimp only
      refine ff_YLok hn (br_t rfl (ff_Ypow (by omega) ?_))
      exact ⟨3 ^ n + 1, ff_Ywd_l hn (3 ^ n) 0 0 _ (by omega) (by omega) k⟩
theorem ff_Xnx_l {post : Int32 → Prop} {n : Nat} {v : Int32} (hn : n ≤ 9) : ∀ m c fu : Nat, c + m = 3 ^ n → m < fu → post (ff_nx fb n v m c) → wX_next_17 post (nI n) v (nI (3 ^ n)) fp fb wt lt fu (nI c) := by
  have hp := ff_p9 hn
  intro m
  induction m with
  | zero =>
    intro c fu hi hf k
    obtain ⟨fu, rfl⟩ : ∃ a, fu = a + 1 := ⟨fu - 1, by omega⟩
    exact br_t (nI_le (by omega) (by omega)) k
  | succ m ih =>
    intro c fu hi hf k
    obtain ⟨fu, rfl⟩ : ∃ a, fu = a + 1 := ⟨fu - 1, by omega⟩
    have ke : ff_nx fb n v (m + 1) c = if v < nI c ∧ ff_ok fb n (3 ^ n + c) = true then nI c else ff_nx fb n v m (c + 1) := rfl
    rw [ke] at k
    refine br_f (nI_ge (by omega) (by omega)) (br_c (fun h => nm_r (nI_1 c) (ih (c + 1) fu (by omega) (by omega) ?_)) (fun h => ff_Xal (by omega) (by omega) (ff_Bz (fun hb => nm_r (nI_1 c) (ih (c + 1) fu (by omega) (by omega) ?_)) (fun hb => ?_))))
    · rw [if_neg (fun z => ff_nlt.mpr h z.1)] at k
      exact k
    · rw [if_neg (fun z => by rw [hb] at z; exact absurd z.2 (by decide))] at k
      exact k
    · rw [if_pos ⟨ff_nle.mp h, hb⟩] at k
      exact k
theorem ff_Ynx_l {post : Int32 → Prop} {n : Nat} {v : Int32} (hn : n ≤ 9) : ∀ m c fu : Nat, c + m = 3 ^ n → m < fu → post (ff_nx fb n v m c) → wY_next_19 post (nI n) v (nI (3 ^ n)) fp fb nw lr fu (nI c) := by
  have hp := ff_p9 hn
  intro m
  induction m with
  | zero =>
    intro c fu hi hf k
    obtain ⟨fu, rfl⟩ : ∃ a, fu = a + 1 := ⟨fu - 1, by omega⟩
    exact br_t (nI_le (by omega) (by omega)) k
  | succ m ih =>
    intro c fu hi hf k
    obtain ⟨fu, rfl⟩ : ∃ a, fu = a + 1 := ⟨fu - 1, by omega⟩
    have ke : ff_nx fb n v (m + 1) c = if v < nI c ∧ ff_ok fb n (3 ^ n + c) = true then nI c else ff_nx fb n v m (c + 1) := rfl
    rw [ke] at k
    refine br_f (nI_ge (by omega) (by omega)) (br_c (fun h => nm_r (nI_1 c) (ih (c + 1) fu (by omega) (by omega) ?_)) (fun h => ff_Ygd (by omega) (by omega) (ff_Bz (fun hb => nm_r (nI_1 c) (ih (c + 1) fu (by omega) (by omega) ?_)) (fun hb => ?_))))
    · rw [if_neg (fun z => ff_nlt.mpr h z.1)] at k
      exact k
    · rw [if_neg (fun z => by rw [hb] at z; exact absurd z.2 (by decide))] at k
      exact k
    · rw [if_pos ⟨ff_nle.mp h, hb⟩] at k
      exact k
theorem ff_next (v1 v2 : Int32) : ∃ r : Int32, (∀ post : Int32 → Prop, post r → wpX_next post (fp, fb, wt, lt) v1 v2) ∧ (∀ post : Int32 → Prop, post r → wpY_next post (fp, fb, nw, lr) v1 v2) := by
  rcases ff_ixN v1 9 (by decide) with h | ⟨n, hn, rfl⟩
  · refine ⟨-1, fun post k => ?_, fun post k => ?_⟩
    · unfold wpX_next; dsimp only
      exact ff_XLbad h (br_t rfl k)
    · unfold wpY_next; dsimp only
      exact ff_YLbad h (br_f ff_n1 k)
  · refine ⟨ff_nx fb n v2 (3 ^ n) 0, fun post k => ?_, fun post k => ?_⟩
    · unfold wpX_next; dsimp only
      refine ff_XLok hn (br_f ff_n1 (ff_Xpow (by omega) ?_))
      exact ⟨3 ^ n + 1, ff_Xnx_l hn (3 ^ n) 0 _ (by omega) (by omega) k⟩
    · unfold wpY_next; dsimp only
      refine ff_YLok hn (br_t rfl (ff_Ypow (by omega) ?_))
      exact ⟨3 ^ n + 1, ff_Ynx_l hn (3 ^ n) 0 _ (by omega) (by omega) k⟩
theorem ff_mirrored (v1 : Int32) : ∃ r : Int32, (∀ post : Int32 → Prop, post r → wpX_mirrored post (fp, fb, wt, lt) v1) ∧ (∀ post : Int32 → Prop, post r → wpY_mirrored post (fp, fb, nw, lr) v1) := by
  rcases ff_ixN v1 9 (by decide) with h | ⟨n, hn, rfl⟩
  · refine ⟨-1, fun post k => ?_, fun post k => ?_⟩
    · unfold wpX_mirrored; dsimp only
      exact ff_XLbad h (br_t rfl k)
    · unfold wpY_mirrored; dsimp only
      exact ff_YLbad h (br_f ff_n1 k)
  have hp := ff_p9 hn
  · refine ⟨nI (ff_sm (fun c => if nI (ff_bw n c 0) = nI c then ff_i (ff_ok fb n (3 ^ n + c)) else 0) (3 ^ n)), fun post k => ?_, fun post k => ?_⟩
    · unfold wpX_mirrored; dsimp only
      refine ff_XLok hn (br_f ff_n1 (ff_Xpow (by omega) ?_))
      refine pk_loop (fun m i (s : Int32) => wX_mirrored_19 post (nI n) (nI (3 ^ n)) fp fb wt lt m s (nI i)) (fun i s => s = nI (ff_sm (fun c => if nI (ff_bw n c 0) = nI c then ff_i (ff_ok fb n (3 ^ n + c)) else 0) i)) (3 ^ n) 0 0 (Nat.zero_le _) rfl (fun m s hs => ?_) (fun m i s hi hs hk => ?_)
      · rw [hs]
        exact br_t (nI_le (Nat.le_refl _) (by omega)) k
      · rw [hs]
        refine br_f (nI_ge hi (by omega)) (ff_Xbw (by omega) (by omega) ?_)
        refine br_c (fun h => ff_Xal (by omega) hi (ff_Bz (fun hb => nm_r (nI_1 i) (hk _ (ff_g0 ?_))) (fun hb => nm_r (nI_1 _) (nm_r (nI_1 i) (hk _ (ff_g1 ?_)))))) (fun h => nm_r (nI_1 i) (hk _ (ff_g0 (if_neg h))))
        · show (if nI (ff_bw n i 0) = nI i then _ else 0) = 0
          rw [if_pos h, ff_i0 hb]
        · show (if nI (ff_bw n i 0) = nI i then _ else 0) = 1
          rw [if_pos h, ff_i1 hb]
    · unfold wpY_mirrored; dsimp only
      refine ff_YLok hn (br_t rfl (ff_Ypow (by omega) ?_))
      refine pk_loop (fun m i (s : Int32) => wY_mirrored_21 post (nI n) (nI (3 ^ n)) fp fb nw lr m s (nI i)) (fun i s => s = nI (ff_sm (fun c => if nI (ff_bw n c 0) = nI c then ff_i (ff_ok fb n (3 ^ n + c)) else 0) i)) (3 ^ n) 0 0 (Nat.zero_le _) rfl (fun m s hs => ?_) (fun m i s hi hs hk => ?_)
      · rw [hs]
        exact br_t (nI_le (Nat.le_refl _) (by omega)) k
      · rw [hs]
        refine br_f (nI_ge hi (by omega)) (ff_Ybw (by omega) (by omega) ?_)
        refine br_c (fun h => ff_Ygd (by omega) hi (ff_Bz (fun hb => nm_r (nI_1 i) (hk _ (ff_g0 ?_))) (fun hb => nm_r (nI_1 _) (nm_r (nI_1 i) (hk _ (ff_g1 ?_)))))) (fun h => nm_r (nI_1 i) (hk _ (ff_g0 (if_neg h))))
        · show (if nI (ff_bw n i 0) = nI i then _ else 0) = 0
          rw [if_pos h, ff_i0 hb]
        · show (if nI (ff_bw n i 0) = nI i then _ else 0) = 1
          rw [if_pos h, ff_i1 hb]
theorem ff_choices (v1 v2 : Int32) : ∃ r : Int32, (∀ post : Int32 → Prop, post r → wpX_choices post (fp, fb, wt, lt) v1 v2) ∧ (∀ post : Int32 → Prop, post r → wpY_choices post (fp, fb, nw, lr) v1 v2) := by
  rcases ff_ixN v1 9 (by decide) with h | ⟨n, hn, rfl⟩
  · refine ⟨-1, fun post k => ?_, fun post k => ?_⟩
    · unfold wpX_choices; dsimp only
      exact ff_XLbad h (br_t rfl k)
    · unfold wpY_choices; dsimp only
      exact ff_YLbad h (br_f ff_n1 k)
  have hp := ff_p9 hn
  rcases ff_ixC v2 (3 ^ n) (by omega) with h | ⟨c, hc, rfl⟩
  · refine ⟨-2, fun post k => ?_, fun post k => ?_⟩
    · unfold wpX_choices; dsimp only
      refine ff_XLok hn (br_f ff_n1 (ff_XCbad hn h ?_))
      exact br_t rfl k
    · unfold wpY_choices; dsimp only
      refine ff_YLok hn (br_t rfl (ff_YCbad hn h ?_))
      exact br_f ff_n1 k
  · refine ⟨nI (ff_sm (fun d => ff_i (ff_ok fb n (3 ^ n + c) && ff_ok fb (n + 1) (3 ^ (n + 1) + (3 * c + d)))) 3), fun post k => ?_, fun post k => ?_⟩
    · have ew : ∀ d, 3 ^ (n + 1) + (3 * c + d) = 3 * (3 ^ n + c) + d := fun d => by rw [ff_pS]; omega
      unfold wpX_choices; dsimp only
      refine ff_XLok hn (br_f ff_n1 (ff_XCok hn hc ?_))
      refine br_f ff_n1 (ff_Xal (by omega) hc ?_)
      refine ff_Bz (fun h => ?_) (fun h => ff_Xpow (by omega) (nm_r (nI_add _ _) ?_))
      · have z : ff_sm (fun d => ff_i (ff_ok fb n (3 ^ n + c) && ff_ok fb (n + 1) (3 ^ (n + 1) + (3 * c + d)))) 3 = 0 := ff_sm_z fun d _ => by
          rw [h, Bool.false_and]; rfl
        rw [z] at k
        exact k
      · refine pk_loop (fun m i (s : Int32) => wX_choices_44 post (nI (3 ^ n + c)) fp fb wt lt m s (nI i)) (fun i s => s = nI (ff_sm (fun d => ff_i (ff_ok fb n (3 ^ n + c) && ff_ok fb (n + 1) (3 ^ (n + 1) + (3 * c + d)))) i)) 3 0 0 (Nat.zero_le _) rfl (fun m s hs => ?_) (fun m i s hi hs hk => ?_)
        · rw [hs]
          exact br_t (nI_le (a := 3) (b := 3) (by omega) (by omega)) k
        · rw [hs]
          have e : nI (3 ^ n + c) * 3 + nI i = nI (3 * (3 ^ n + c) + i) := by
            rw [show nI (3 ^ n + c) * 3 = nI ((3 ^ n + c) * 3) from pk_mul _ 3, nI_add]
            exact congrArg nI (by omega)
          refine br_f (nI_ge (a := i) (b := 3) hi (by omega)) ?_
          rw [e]
          refine ff_Xef (by omega) (ff_Bz (fun hb => nm_r (nI_1 _) (nm_r (nI_1 i) (hk _ (ff_g1 (ff_i1 ?_))))) (fun hb => nm_r (nI_1 i) (hk _ (ff_g0 (ff_i0 ?_)))))
          · rw [ew, ff_ok_s _ _ _ _ hi, h, hb]; rfl
          · rw [ew, ff_ok_s _ _ _ _ hi, h, hb]; rfl
    · have hp10 : 3 ^ (n + 1) ≤ 59049 := ff_p10 (by omega)
      have hpS := ff_pS n
      unfold wpY_choices; dsimp only
      refine ff_YLok hn (br_t rfl (ff_YCok hn hc ?_))
      refine br_t rfl ?_
      refine pk_loop (fun m i (s : Int32) => wY_choices_27 post (nI n) (nI c) fp fb nw lr m s (nI i)) (fun i s => s = nI (ff_sm (fun d => ff_i (ff_ok fb n (3 ^ n + c) && ff_ok fb (n + 1) (3 ^ (n + 1) + (3 * c + d)))) i)) 3 0 0 (Nat.zero_le _) rfl (fun m s hs => ?_) (fun m i s hi hs hk => ?_)
      · rw [hs]
        exact br_t (nI_le (a := 3) (b := 3) (by omega) (by omega)) k
      · rw [hs]
        have e : 3 * nI c + nI i = nI (3 * c + i) := by
          rw [show 3 * nI c = nI (3 * c) from pk_mul 3 c, nI_add]
        refine br_f (nI_ge (a := i) (b := 3) hi (by omega)) (ff_Ygd (by omega) hc ?_)
        refine ff_Bz (fun hb => nm_r (nI_1 i) (hk _ (ff_g0 (ff_i0 ?_)))) (fun hb => ?_)
        · rw [hb, Bool.false_and]
        · rw [e, nI_1 n]
          refine ff_Ygd (by omega) (by omega) (ff_Bz (fun hb2 => nm_r (nI_1 i) (hk _ (ff_g0 (ff_i0 ?_)))) (fun hb2 => nm_r (nI_1 _) (nm_r (nI_1 i) (hk _ (ff_g1 (ff_i1 ?_))))))
          · rw [hb, hb2]; rfl
          · rw [hb, hb2]; rfl
end
end
section
section
variable {fp : Int32} {fb : Nat → Int32} {wt lt nw lr : Nat → Int64}
theorem ff_beginning (v1 v2 : Int32) : ∃ r : Int32, (∀ post : Int32 → Prop, post r → wpX_beginning post (fp, fb, wt, lt) v1 v2) ∧ (∀ post : Int32 → Prop, post r → wpY_beginning post (fp, fb, nw, lr) v1 v2) := by
  rcases ff_ixN v1 9 (by decide) with h | ⟨n, hn, rfl⟩
  · refine ⟨-1, fun post k => ?_, fun post k => ?_⟩
    · unfold wpX_beginning; dsimp only
      exact ff_XLbad h (br_t rfl k)
    · unfold wpY_beginning; dsimp only
      exact ff_YLbad h (br_f ff_n1 k)
  have hp := ff_p9 hn
  rcases ff_piece v2 with h | ⟨kk, q, h1, h4, hq, rfl⟩
  · refine ⟨-2, fun post k => ?_, fun post k => ?_⟩
    · unfold wpX_beginning; dsimp only
      refine ff_XLok hn (br_f ff_n1 (ff_XpiN h ?_))
      exact br_t rfl k
    · unfold wpY_beginning; dsimp only
      refine ff_YLok hn (br_t rfl (ff_YleN h ?_))
      exact br_t rfl k
  have hpk := ff_p4 h4
  by_cases hk : kk ≤ n
  · refine ⟨nI (ff_pw fb n kk q (n - kk)), fun post k => ?_, fun post k => ?_⟩
    · unfold wpX_beginning; dsimp only
      refine ff_XLok hn (br_f ff_n1 (ff_Xpi h1 h4 hq ?_))
      refine br_f ff_n1 (ff_Xpl h1 h4 hq ?_)
      refine nm_r (pk_sub hk) (br_t (nI_pos' (by omega)) ?_)
      exact ff_Xpw hn (by omega) h1 h4 hq k
    · have hL : 3 ^ (n - kk) ≤ 19683 := ff_p9 (by omega)
      have hL0 : 0 < 3 ^ (n - kk) := ff_p3 _
      have hKL : 3 ^ kk * 3 ^ (n - kk) = 3 ^ n := by rw [← Nat.pow_add]; congr 1; omega
      have hqL : (q + 1) * 3 ^ (n - kk) ≤ 3 ^ n := by rw [← hKL]; exact Nat.mul_le_mul_right _ hq
      have hqL2 : (q + 1) * 3 ^ (n - kk) = q * 3 ^ (n - kk) + 3 ^ (n - kk) := Nat.succ_mul _ _
      have e2 : nI (3 ^ kk + q) - nI (3 ^ kk) = nI q := (pk_sub (Nat.le_add_right _ _)).trans (congrArg nI (Nat.add_sub_cancel_left _ _))
      rw [ff_begin fb hk hq] at k
      unfold wpY_beginning; dsimp only
      refine ff_YLok hn (br_t rfl (ff_Yle h1 h4 hq ?_))
      refine br_f (nI_ne0 (by omega) (by omega)) (br_t (nI_le hk (by omega)) ?_)
      rw [pk_sub hk]
      refine ff_Ypow (n := n - kk) (by omega) ?_
      refine ff_Ypow (n := kk) (by omega) ?_
      refine nm_r e2 (nm_r (pk_mul q _) ?_)
      generalize hLe : 3 ^ (n - kk) = L at *
      have e3 : (nI q + 1) * nI L = nI ((q + 1) * L) := by rw [nI_1, pk_mul]
      refine pk_loop (fun m i (s : Int32) => wY_beginning_58 post (nI n) (nI L) (nI q) fp fb nw lr m s (nI i)) (fun i s => s = nI (ff_sm (fun j => ff_i (ff_ok fb n (3 ^ n + (q * L + j)))) (i - q * L)) ∧ q * L ≤ i) ((q + 1) * L) (q * L) 0 (by omega) ⟨by rw [Nat.sub_self]; rfl, Nat.le_refl _⟩ (fun m s hs => ?_) (fun m i s hi hs hk => ?_)
      · have hs1 : s = _ := hs.1
        have e4 : (q + 1) * L - q * L = L := by omega
        rw [e4] at hs1
        rw [hs1]
        refine br_t ?_ k
        rw [e3]
        exact nI_le (Nat.le_refl _) (by omega)
      · have hs1 : s = nI (ff_sm (fun j => ff_i (ff_ok fb n (3 ^ n + (q * L + j)))) (i - q * L)) := hs.1
        have hs2 : q * L ≤ i := hs.2
        have e5 : i + 1 - q * L = (i - q * L) + 1 := by omega
        have e6 : q * L + (i - q * L) = i := by omega
        rw [hs1]
        refine br_f (by rw [e3]; exact nI_ge hi (by omega)) (ff_Ygd (by omega) (by omega) (ff_Bz (fun hb => nm_r (nI_1 i) (hk _ ⟨?_, by omega⟩)) (fun hb => nm_r (nI_1 _) (nm_r (nI_1 i) (hk _ ⟨?_, by omega⟩)))))
        · rw [e5]
          refine ff_g0 ?_
          show ff_i (ff_ok fb n (3 ^ n + (q * L + (i - q * L)))) = 0
          rw [e6, ff_i0 hb]
        · rw [e5]
          refine ff_g1 ?_
          show ff_i (ff_ok fb n (3 ^ n + (q * L + (i - q * L)))) = 1
          rw [e6, ff_i1 hb]
  · refine ⟨0, fun post k => ?_, fun post k => ?_⟩
    · unfold wpX_beginning; dsimp only
      refine ff_XLok hn (br_f ff_n1 (ff_Xpi h1 h4 hq ?_))
      refine br_f ff_n1 (ff_Xpl h1 h4 hq ?_)
      refine nm_e (br_f ?_ k)
      exact ff_nle.mpr (pk_sneg (by omega) (by omega))
    · unfold wpY_beginning; dsimp only
      refine ff_YLok hn (br_t rfl (ff_Yle h1 h4 hq ?_))
      exact br_f (nI_ne0 (by omega) (by omega)) (br_f (nI_ge (by omega) (by omega)) k)
theorem ff_Yen {post : Int32 → Prop} {n kk q : Nat} (hn : n ≤ 9) (h4 : kk ≤ 4) (hq : q < 3 ^ kk) (k : post (nI (ff_sm (fun c => if kk ≤ n ∧ c % 3 ^ kk = q then ff_i (ff_ok fb n (3 ^ n + c)) else 0) (3 ^ n)))) : ∃ m, wY_ending_36 post (nI n) (nI (3 ^ kk + q)) (nI kk) (nI (3 ^ n)) fp fb nw lr m 0 0 := by
  have hp := ff_p9 hn
  refine pk_loop (fun m i (s : Int32) => wY_ending_36 post (nI n) (nI (3 ^ kk + q)) (nI kk) (nI (3 ^ n)) fp fb nw lr m s (nI i)) (fun i s => s = nI (ff_sm (fun c => if kk ≤ n ∧ c % 3 ^ kk = q then ff_i (ff_ok fb n (3 ^ n + c)) else 0) i)) (3 ^ n) 0 0 (Nat.zero_le _) rfl (fun m s hs => ?_) (fun m i s hi hs hk => ?_)
  · rw [hs]
    exact br_t (nI_le (Nat.le_refl _) (by omega)) k
  · rw [hs]
    refine br_f (nI_ge hi (by omega)) (ff_Yst (by omega) (by omega) h4 hq ?_)
    refine ff_Bz (fun h => nm_r (nI_1 i) (hk _ (ff_g0 (if_neg (of_decide_eq_false h))))) (fun h => ff_Ygd (by omega) hi (ff_Bz (fun hb => nm_r (nI_1 i) (hk _ (ff_g0 ?_))) (fun hb => nm_r (nI_1 _) (nm_r (nI_1 i) (hk _ (ff_g1 ?_))))))
    · show (if kk ≤ n ∧ i % 3 ^ kk = q then _ else 0) = 0
      rw [if_pos (of_decide_eq_true h), ff_i0 hb]
    · show (if kk ≤ n ∧ i % 3 ^ kk = q then _ else 0) = 1
      rw [if_pos (of_decide_eq_true h), ff_i1 hb]
theorem ff_ending (v1 v2 : Int32) : ∃ r : Int32, (∀ post : Int32 → Prop, post r → wpX_ending post (fp, fb, wt, lt) v1 v2) ∧ (∀ post : Int32 → Prop, post r → wpY_ending post (fp, fb, nw, lr) v1 v2) := by
  rcases ff_ixN v1 9 (by decide) with h | ⟨n, hn, rfl⟩
  · refine ⟨-1, fun post k => ?_, fun post k => ?_⟩
    · unfold wpX_ending; dsimp only
      exact ff_XLbad h (br_t rfl k)
    · unfold wpY_ending; dsimp only
      exact ff_YLbad h (br_f ff_n1 k)
  have hp := ff_p9 hn
  rcases ff_piece v2 with h | ⟨kk, q, h1, h4, hq, rfl⟩
  · refine ⟨-2, fun post k => ?_, fun post k => ?_⟩
    · unfold wpX_ending; dsimp only
      refine ff_XLok hn (br_f ff_n1 (ff_XpiN h ?_))
      exact br_t rfl k
    · unfold wpY_ending; dsimp only
      refine ff_YLok hn (br_t rfl (ff_YleN h ?_))
      exact br_t rfl k
  have hpk := ff_p4 h4
  refine ⟨nI (ff_sm (fun c => if kk ≤ n ∧ c % 3 ^ kk = q then ff_i (ff_ok fb n (3 ^ n + c)) else 0) (3 ^ n)), fun post k => ?_, fun post k => ?_⟩
  · unfold wpX_ending; dsimp only
    refine ff_XLok hn (br_f ff_n1 (ff_Xpi h1 h4 hq ?_))
    refine br_f ff_n1 (ff_Xpl h1 h4 hq ?_)
    by_cases hk : kk ≤ n
    · rw [ff_end fb hk] at k
      refine br_t (nI_le hk (by omega)) ?_
      exact ff_Xpw (a := 0) hn (by omega) h1 h4 hq k
    · rw [ff_end0 fb (by omega)] at k
      exact br_f (nI_ge (by omega) (by omega)) k
  · unfold wpY_ending; dsimp only
    refine ff_YLok hn (br_t rfl (ff_Yle h1 h4 hq ?_))
    refine br_f (nI_ne0 (by omega) (by omega)) (ff_Ypow (by omega) ?_)
    exact ff_Yen hn h4 hq k
theorem ff_standing (v1 v2 : Int32) : ∃ r : Int32, (∀ post : Int32 → Prop, post r → wpX_standing post (fp, fb, wt, lt) v1 v2) ∧ (∀ post : Int32 → Prop, post r → wpY_standing post (fp, fb, nw, lr) v1 v2) := by
  rcases ff_ixN v1 9 (by decide) with h | ⟨n, hn, rfl⟩
  · refine ⟨-1, fun post k => ?_, fun post k => ?_⟩
    · unfold wpX_standing; dsimp only
      exact ff_XLbad h (br_t rfl k)
    · unfold wpY_standing; dsimp only
      exact ff_YLbad h (br_f ff_n1 k)
  have hp := ff_p9 hn
  rcases ff_piece v2 with h | ⟨kk, q, h1, h4, hq, rfl⟩
  · refine ⟨-2, fun post k => ?_, fun post k => ?_⟩
    · unfold wpX_standing; dsimp only
      refine ff_XLok hn (br_f ff_n1 (ff_XpiN h ?_))
      exact br_t rfl k
    · unfold wpY_standing; dsimp only
      refine ff_YLok hn (br_t rfl (ff_YleN h ?_))
      exact br_t rfl k
  have hpk := ff_p4 h4
  refine ⟨nI (ff_sm (fun c => if ff_ok fb n (3 ^ n + c) = true then ff_pc kk q n c else 0) (3 ^ n)), fun post k => ?_, fun post k => ?_⟩
  · unfold wpX_standing; dsimp only
    refine ff_XLok hn (br_f ff_n1 (ff_Xpi h1 h4 hq ?_))
    refine br_f ff_n1 (ff_Xpl h1 h4 hq ?_)
    by_cases hk : kk ≤ n
    · rw [ff_stand fb h1 hk] at k
      refine nm_r (pk_sub hk) ?_
      refine pk_loop (fun m i (s : Int32) => wX_standing_32 post (nI n) (nI (3 ^ kk + q)) (nI (n - kk)) fp fb wt lt m s (nI i)) (fun i s => s = nI (ff_sm (ff_pw fb n kk q) i)) (n - kk + 1) 0 0 (Nat.zero_le _) rfl (fun m s hs => ?_) (fun m i s hi hs hk => ?_)
      · rw [hs]
        exact br_t (nI_lt (Nat.lt_succ_self _) (by omega)) k
      · rw [hs]
        refine br_f (nI_nlt (by omega) (by omega)) (ff_Xpw hn (by omega) h1 h4 hq ?_)
        exact nm_r (nI_add _ _) (nm_r (nI_1 i) (hk _ (ff_ga rfl)))
    · rw [ff_stand0 fb (by omega)] at k
      refine nm_e ⟨1, br_t ?_ k⟩
      exact pk_sneg (by omega) (by omega)
  · unfold wpY_standing; dsimp only
    refine ff_YLok hn (br_t rfl (ff_Yle h1 h4 hq ?_))
    refine br_f (nI_ne0 (by omega) (by omega)) (ff_Ypow (by omega) ?_)
    refine pk_loop (fun m i (s : Int32) => wY_standing_36 post (nI n) (nI (3 ^ kk + q)) (nI kk) (nI (3 ^ n)) fp fb nw lr m s (nI i)) (fun i s => s = nI (ff_sm (fun c => if ff_ok fb n (3 ^ n + c) = true then ff_pc kk q n c else 0) i)) (3 ^ n) 0 0 (Nat.zero_le _) rfl (fun m s hs => ?_) (fun m i s hi hs hk => ?_)
    · rw [hs]
      exact br_t (nI_le (Nat.le_refl _) (by omega)) k
    · rw [hs]
      refine br_f (nI_ge hi (by omega)) (ff_Ygd (by omega) hi ?_)
      refine ff_Bz (fun hb => nm_r (nI_1 i) (hk _ (ff_g0 (if_neg (by rw [hb]; decide))))) (fun hb => ff_Ypc h4 hq (by omega) (by omega) ?_)
      exact nm_r (nI_add _ _) (nm_r (nI_1 i) (hk _ (ff_ga (if_pos hb))))
end
end
section
theorem ff_tl {s : Nat → Int64} {E : Nat → Nat} {i : Nat} {x : Int64} (hs : ∀ t, t < i → s t = lN (E t)) (hx : x = lN (E i)) : ∀ t, t < i + 1 → vp_updL s i x t = lN (E t) := by
  intro t ht
  by_cases h : t = i
  · subst h
    rw [pk_uLs]
    exact hx
  · rw [pk_uLn h]
    exact hs t (by omega)
theorem ff_up {s : Nat → Int64} {E : Nat → Nat} {T j d : Nat} (hs : ∀ t, t < T → s t = lN (E t)) : ∀ t, t < T → vp_updL s j (s j + lN d) t = lN (E t + (if j = t then d else 0)) := by
  intro t ht
  by_cases h : t = j
  · subst h
    rw [pk_uLs, hs t ht, lN_add, if_pos rfl]
  · rw [pk_uLn h, hs t ht, if_neg (fun z => h z.symm)]
    rfl
theorem ff_lz {d : Nat} (h : d < 2 ^ 63) : lN d ≤ 0 ↔ d = 0 := by
  have := pk_lLE (a := d) (b := 0) h (by decide)
  rw [show (0 : Int64) = lN 0 from rfl, this]
  omega
theorem ff_l1 {G : Nat → Nat} {c j t' d : Nat} (h : G c = if j = t' then 1 else 0) : ff_sm G c * d + (if j = t' then d else 0) = ff_sm G (c + 1) * d := by
  show _ = (ff_sm G c + G c) * d
  rw [h, Nat.add_mul]
  by_cases e : j = t'
  · rw [if_pos e, if_pos e, Nat.one_mul]
  · rw [if_neg e, if_neg e, Nat.zero_mul]
theorem ff_l0 {G : Nat → Nat} {c d : Nat} (h : G c * d = 0) : ff_sm G c * d = ff_sm G (c + 1) * d := by
  show _ = (ff_sm G c + G c) * d
  rw [Nat.add_mul, h, Nat.add_zero]
section
variable {fp : Int32} {fb : Nat → Int32} {wt lt nw lr : Nat → Int64}
theorem ff_Xl3 {post : Int32 → Prop} {w : Nat} (hw : w < 2 ^ 31) (k : post (nI (ff_l3 w))) : wpX_lastThreeLetters post (nI w) := by
  have e : 27 + (nI w - nI w / 27 * 27) = nI (27 + w % 27) := by
    rw [show nI w - nI w / 27 * 27 = nI (w % 27) from pk_rem (d := 27) hw (by decide) (by decide)]; exact nI_add 27 _
  unfold ff_l3 at k
  unfold wpX_lastThreeLetters
  refine pk_le 54 w (fun h => ⟨by decide, ?_⟩) (fun h => ?_)
  · rw [if_neg (by omega)] at k
    rw [e]
    exact k
  · rw [if_pos (by omega)] at k
    exact k
theorem ff_Xin {post : SX → Prop} {J : Int32 → (Nat → Int32) → (Nat → Int64) → (Nat → Int64) → Prop} {D S : Nat → Nat} {t : Nat} (ht : t < 54) (hD : wt t = lN (D t)) (hb : D t < 2 ^ 63) (s0 : Nat → Int64) (h0 : ∀ t', t' < 54 → s0 t' = lN (S t'))
    (kJ : ∀ s : Nat → Int64, (∀ t', t' < 54 → s t' = lN (S t' + ff_h fb t' t * D t)) → J (nI (t + 1)) fb wt s) : ∃ m, wX_lengthenByOne_31 post J (nI t) fp m 0 fb wt s0 := by
  refine pk_loop (fun m c (s : Nat → Int64) => wX_lengthenByOne_31 post J (nI t) fp m (nI c) fb wt s) (fun c s => ∀ t', t' < 54 → s t' = lN (S t' + ff_sm (fun c => if ff_l3 (3 * t + c) = t' then ff_i (!ff_ef fb (3 * t + c)) else 0) c * D t)) 3 0 s0 (Nat.zero_le _) (fun t' ht' => ?_) (fun m s hs => ?_) (fun m c s hc hs hk => ?_)
  · rw [h0 t' ht']
    show lN (S t') = lN (S t' + 0 * D t)
    rw [Nat.zero_mul, Nat.add_zero]
  · exact br_t (nI_le (a := 3) (b := 3) (by omega) (by omega)) (nm_r (nI_1 t) (kJ s hs))
  · have e : nI t * 3 + nI c = nI (3 * t + c) := by
      rw [show nI t * 3 = nI (t * 3) from pk_mul t 3, nI_add, Nat.mul_comm t 3]
    have ec : (nI t).toNatClampNeg = t := nI_clamp (by omega)
    have same : (∀ t', (if ff_l3 (3 * t + c) = t' then ff_i (!ff_ef fb (3 * t + c)) else 0) * D t = 0) → ∀ t', t' < 54 → s t' = lN (S t' + ff_sm (fun c => if ff_l3 (3 * t + c) = t' then ff_i (!ff_ef fb (3 * t + c)) else 0) (c + 1) * D t) := by
      intro z t' ht'
      rw [hs t' ht', ff_l0 (G := fun c => if ff_l3 (3 * t + c) = t' then ff_i (!ff_ef fb (3 * t + c)) else 0) (c := c) (z t')]
    refine br_f (nI_ge (a := c) (b := 3) hc (by omega)) (nm_r e ⟨vp_in_nI ht (by decide), ?_⟩)
    rw [ec, hD]
    by_cases hz : D t = 0
    · refine br_t ((ff_lz hb).mpr hz) (nm_r (nI_1 c) (hk _ (same fun t' => ?_)))
      rw [hz, Nat.mul_zero]
    · refine br_f (fun z => hz ((ff_lz hb).mp z)) (ff_Xef (by omega) (ff_Bz (fun hf => ff_Xl3 (by omega) ?_) (fun hf => nm_r (nI_1 c) (hk _ (same fun t' => ?_)))))
      · have hj : ff_l3 (3 * t + c) < 54 := ff_l3_lt _
        have ej : (nI (ff_l3 (3 * t + c))).toNatClampNeg = ff_l3 (3 * t + c) := nI_clamp (by omega)
        refine ⟨vp_in_nI hj (by decide), vp_in_nI ht (by decide), vp_in_nI hj (by decide), ?_⟩
        rw [ej]
        refine nm_e (nm_r (nI_1 c) (hk _ (fun t' ht' => ?_)))
        rw [ff_up hs t' ht', Nat.add_assoc, ff_l1 (G := fun c => if ff_l3 (3 * t + c) = t' then ff_i (!ff_ef fb (3 * t + c)) else 0) (c := c)]
        show (if ff_l3 (3 * t + c) = t' then ff_i (!ff_ef fb (3 * t + c)) else 0) = _
        rw [hf]
        rfl
      · rw [hf]
        show (if ff_l3 (3 * t + c) = t' then 0 else 0) * D t = 0
        split <;> exact Nat.zero_mul _
theorem ff_Xlen {post : SX → Prop} {D : Nat → Nat} (hD : ∀ t, t < 54 → wt t = lN (D t)) (hb : ∀ t, t < 54 → D t < 2 ^ 63) (h0 : D 0 = 0) (k : ∀ wt' lt' : Nat → Int64, (∀ t, t < 54 → wt' t = lN (ff_sm (fun t1 => ff_h fb t t1 * D t1) 54)) → post (fp, fb, wt', lt')) : wpX_lengthenByOne post (fp, fb, wt, lt) := by
  unfold wpX_lengthenByOne
  dsimp only
  refine pk_loop (fun m i (s : Nat → Int64) => wX_lengthenByOne_2 post fp m (nI i) fb wt s) (fun i s => ∀ t, t < i → s t = lN 0) 54 0 lt (Nat.zero_le _) (fun t ht => absurd ht (by omega)) (fun m s hs => ?_) (fun m i s hi hs hk => ?_)
  · refine br_t (nI_le (a := 54) (b := 54) (by omega) (by omega)) ?_
    refine pk_loop (fun m i (s : Nat → Int64) => wX_lengthenByOne_23 post fp m (nI i) fb wt s) (fun i s => ∀ t', t' < 54 → s t' = lN (ff_sm (fun t => ff_h fb t' t * D t) i)) 54 1 s (by omega) (fun t' ht' => ?_) (fun m s hs => ?_) (fun m i s hi hs hk => ?_)
    · rw [hs t' ht']
      show lN 0 = lN (0 + ff_h fb t' 0 * D 0)
      rw [h0, Nat.mul_zero]
    · refine br_t (nI_le (a := 54) (b := 54) (by omega) (by omega)) ?_
      refine pk_loop (fun m i (w : Nat → Int64) => wX_lengthenByOne_97 post fp m (nI i) fb w s) (fun i w => ∀ t, t < i → w t = lN (ff_sm (fun t1 => ff_h fb t t1 * D t1) 54)) 54 0 wt (Nat.zero_le _) (fun t ht => absurd ht (by omega)) (fun m w hw => ?_) (fun m i w hi hw hk => ?_)
      · exact br_t (nI_le (a := 54) (b := 54) (by omega) (by omega)) (k w s hw)
      · refine br_f (nI_ge (a := i) (b := 54) hi (by omega)) ⟨vp_in_nI hi (by decide), vp_in_nI hi (by decide), ?_⟩
        rw [nI_clamp (show i < 2 ^ 31 by omega)]
        exact nm_e (nm_r (nI_1 i) (hk _ (ff_tl hw (hs i hi))))
    · refine br_f (nI_ge (a := i) (b := 54) hi (by omega)) ?_
      exact ff_Xin hi (hD i hi) (hb i hi) s hs (fun s' hs' => hk s' hs')
  · refine br_f (nI_ge (a := i) (b := 54) hi (by omega)) ⟨vp_in_nI hi (by decide), ?_⟩
    rw [nI_clamp (show i < 2 ^ 31 by omega)]
    exact nm_e (nm_r (nI_1 i) (hk _ (ff_tl (E := fun _ => 0) hs rfl)))
theorem ff_Xaw {post : Int64 → SX → Prop} {n : Nat} (hn : n ≤ 30) (k : ∀ wt' lt' : Nat → Int64, post (lN (ff_tot fb n)) (fp, fb, wt', lt')) : wpX_allowedWords post (fp, fb, wt, lt) (nI n) := by
  unfold wpX_allowedWords
  dsimp only
  refine pk_loop (fun m i (s : Nat → Int64) => wX_allowedWords_2 post (nI n) fp m (nI i) fb s lt) (fun i s => ∀ t, t < i → s t = lN 0) 54 0 wt (Nat.zero_le _) (fun t ht => absurd ht (by omega)) (fun m s hs => ?_) (fun m i s hi hs hk => ?_)
  · refine br_t (nI_le (a := 54) (b := 54) (by omega) (by omega)) (nm_e ?_)
    refine pk_loop (fun m i (s : (Nat → Int64) × (Nat → Int64)) => wX_allowedWords_30 post (nI n) m (nI i) fp fb s.1 s.2) (fun i s => ∀ t, t < 54 → s.1 t = lN (ff_cn fb i t)) n 0 (vp_updL s 1 1, lt) (Nat.zero_le _) (fun t ht => ?_) (fun m s hs => ?_) (fun m i s hi hs hk => ?_)
    · rw [ff_cn_0]
      by_cases h : t = 1
      · subst h
        rw [if_pos rfl]
        show vp_updL s 1 1 1 = 1
        exact pk_uLs
      · rw [if_neg h]
        exact (pk_uLn h).trans (hs t ht)
    · refine br_t (nI_le (Nat.le_refl n) (by omega)) ?_
      refine pk_loop (fun m i (x : Int64) => wX_allowedWords_50 post fp fb s.1 s.2 m x (nI i)) (fun i x => x = lN (ff_sm (ff_cn fb n) i)) 54 0 0 (Nat.zero_le _) rfl (fun m x hx => ?_) (fun m i x hi hx hk => ?_)
      · rw [hx, ff_tot_cn]
        exact br_t (nI_le (a := 54) (b := 54) (by omega) (by omega)) (k _ _)
      · rw [hx]
        refine br_f (nI_ge (a := i) (b := 54) hi (by omega)) ⟨vp_in_nI hi (by decide), ?_⟩
        rw [nI_clamp (show i < 2 ^ 31 by omega), hs i hi]
        exact nm_r (lN_add _ _) (nm_r (nI_1 i) (hk _ rfl))
    · refine br_f (nI_ge hi (by omega)) (ff_Xlen (D := ff_cn fb i) hs (fun t _ => Nat.lt_of_le_of_lt (ff_cn_le fb i t) (ff_pow_lt (by omega))) (ff_cn_t0 fb i) (fun wt' lt' h => ?_))
      refine nm_r (nI_1 i) (hk (wt', lt') (fun t ht => ?_))
      rw [ff_cn_s]
      exact h t ht
  · refine br_f (nI_ge (a := i) (b := 54) hi (by omega)) ⟨vp_in_nI hi (by decide), ?_⟩
    rw [nI_clamp (show i < 2 ^ 31 by omega)]
    exact nm_e (nm_r (nI_1 i) (hk _ (ff_tl (E := fun _ => 0) hs rfl)))
theorem ff_Yin {post : SY → Prop} {J : Int32 → (Nat → Int32) → (Nat → Int64) → (Nat → Int64) → Prop} {D S : Nat → Nat} {t : Nat} (ht : t < 27) (hD : nw t = lN (D t)) (s0 : Nat → Int64) (h0 : ∀ t', t' < 27 → s0 t' = lN (S t'))
    (kJ : ∀ s : Nat → Int64, (∀ t', t' < 27 → s t' = lN (S t' + ff_hy fb t' t * D t)) → J (nI (t + 1)) fb nw s) : ∃ m, wY_grow_31 post J (nI t) fp m 0 fb nw s0 := by
  refine pk_loop (fun m c (s : Nat → Int64) => wY_grow_31 post J (nI t) fp m (nI c) fb nw s) (fun c s => ∀ t', t' < 27 → s t' = lN (S t' + ff_sm (fun c => if (3 * t + c) % 27 = t' then ff_i (ff_ok fb 4 (81 + (3 * t + c))) else 0) c * D t)) 3 0 s0 (Nat.zero_le _) (fun t' ht' => ?_) (fun m s hs => ?_) (fun m c s hc hs hk => ?_)
  · rw [h0 t' ht']
    show lN (S t') = lN (S t' + 0 * D t)
    rw [Nat.zero_mul, Nat.add_zero]
  · exact br_t (nI_le (a := 3) (b := 3) (by omega) (by omega)) (nm_r (nI_1 t) (kJ s hs))
  · have e : 3 * nI t + nI c = nI (3 * t + c) := by
      rw [show 3 * nI t = nI (3 * t) from pk_mul 3 t, nI_add]
    have er : nI (3 * t + c) - nI (3 * t + c) / 27 * 27 = nI ((3 * t + c) % 27) := pk_rem (d := 27) (by omega) (by decide) (by decide)
    have ec : (nI t).toNatClampNeg = t := nI_clamp (by omega)
    have hj : (3 * t + c) % 27 < 27 := Nat.mod_lt _ (by decide)
    have ej : (nI ((3 * t + c) % 27)).toNatClampNeg = (3 * t + c) % 27 := nI_clamp (by omega)
    refine br_f (nI_ge (a := c) (b := 3) hc (by omega)) ?_
    rw [e, er]
    refine ff_Ygd (n := 4) (by omega) (show 3 * t + c < 81 by omega) (ff_Bz (fun hf => nm_r (nI_1 c) (hk _ (fun t' ht' => ?_))) (fun hf => ⟨by decide, vp_in_nI hj (by decide), vp_in_nI ht (by decide), vp_in_nI hj (by decide), ?_⟩))
    · have hf : ff_ok fb 4 (81 + (3 * t + c)) = false := hf
      rw [hs t' ht', ff_l0 (G := fun c => if (3 * t + c) % 27 = t' then ff_i (ff_ok fb 4 (81 + (3 * t + c))) else 0) (c := c)]
      show (if (3 * t + c) % 27 = t' then ff_i (ff_ok fb 4 (81 + (3 * t + c))) else 0) * D t = 0
      rw [hf]
      show (if (3 * t + c) % 27 = t' then 0 else 0) * D t = 0
      split <;> exact Nat.zero_mul _
    · have hf : ff_ok fb 4 (81 + (3 * t + c)) = true := hf
      rw [ej, ec, hD]
      refine nm_e (nm_r (nI_1 c) (hk _ (fun t' ht' => ?_)))
      rw [ff_up hs t' ht', Nat.add_assoc, ff_l1 (G := fun c => if (3 * t + c) % 27 = t' then ff_i (ff_ok fb 4 (81 + (3 * t + c))) else 0) (c := c)]
      show (if (3 * t + c) % 27 = t' then ff_i (ff_ok fb 4 (81 + (3 * t + c))) else 0) = _
      rw [hf]
      rfl
theorem ff_Ygrow {post : SY → Prop} {D : Nat → Nat} (hD : ∀ t, t < 27 → nw t = lN (D t)) (k : ∀ nw' lr' : Nat → Int64, (∀ t, t < 27 → nw' t = lN (ff_sm (fun t1 => ff_hy fb t t1 * D t1) 27)) → post (fp, fb, nw', lr')) : wpY_grow post (fp, fb, nw, lr) := by
  unfold wpY_grow
  dsimp only
  refine pk_loop (fun m i (s : Nat → Int64) => wY_grow_2 post fp m (nI i) fb nw s) (fun i s => ∀ t, t < i → s t = lN 0) 27 0 lr (Nat.zero_le _) (fun t ht => absurd ht (by omega)) (fun m s hs => ?_) (fun m i s hi hs hk => ?_)
  · refine br_t (nI_le (a := 27) (b := 27) (by omega) (by omega)) ?_
    refine pk_loop (fun m i (s : Nat → Int64) => wY_grow_23 post fp m (nI i) fb nw s) (fun i s => ∀ t', t' < 27 → s t' = lN (ff_sm (fun t => ff_hy fb t' t * D t) i)) 27 0 s (by omega) (fun t' ht' => hs t' ht') (fun m s hs => ?_) (fun m i s hi hs hk => ?_)
    · refine br_t (nI_le (a := 27) (b := 27) (by omega) (by omega)) ?_
      refine pk_loop (fun m i (w : Nat → Int64) => wY_grow_85 post fp m (nI i) fb w s) (fun i w => ∀ t, t < i → w t = lN (ff_sm (fun t1 => ff_hy fb t t1 * D t1) 27)) 27 0 nw (Nat.zero_le _) (fun t ht => absurd ht (by omega)) (fun m w hw => ?_) (fun m i w hi hw hk => ?_)
      · exact br_t (nI_le (a := 27) (b := 27) (by omega) (by omega)) (k w s hw)
      · refine br_f (nI_ge (a := i) (b := 27) hi (by omega)) ⟨vp_in_nI hi (by decide), vp_in_nI hi (by decide), ?_⟩
        rw [nI_clamp (show i < 2 ^ 31 by omega)]
        exact nm_e (nm_r (nI_1 i) (hk _ (ff_tl hw (hs i hi))))
    · refine br_f (nI_ge (a := i) (b := 27) hi (by omega)) ?_
      exact ff_Yin hi (hD i hi) s hs (fun s' hs' => hk s' hs')
  · refine br_f (nI_ge (a := i) (b := 27) hi (by omega)) ⟨vp_in_nI hi (by decide), ?_⟩
    rw [nI_clamp (show i < 2 ^ 31 by omega)]
    exact nm_e (nm_r (nI_1 i) (hk _ (ff_tl (E := fun _ => 0) hs rfl)))
theorem ff_Yc {post : Int64 → SY → Prop} {n : Nat} (h4 : 4 ≤ n) (hn : n ≤ 30) (k : ∀ nw' lr' : Nat → Int64, post (lN (ff_tot fb n)) (fp, fb, nw', lr')) : ∃ m, wY_count_28 post (nI n) fp m 0 fb nw lr := by
  refine pk_loop (fun m i (s : Nat → Int64) => wY_count_28 post (nI n) fp m (nI i) fb s lr) (fun i s => ∀ t, t < i → s t = lN (ff_i (ff_ok fb 3 (27 + t)))) 27 0 nw (Nat.zero_le _) (fun t ht => absurd ht (by omega)) (fun m s hs => ?_) (fun m i s hi hs hk => ?_)
  · refine br_t (nI_le (a := 27) (b := 27) (by omega) (by omega)) ?_
    refine pk_loop (fun m i (s : (Nat → Int64) × (Nat → Int64)) => wY_count_62 post (nI n) m (nI i) fp fb s.1 s.2) (fun i s => 3 ≤ i ∧ ∀ t, t < 27 → s.1 t = lN (ff_cn fb i (27 + t))) n 3 (s, lr) (by omega) ⟨Nat.le_refl 3, fun t ht => ?_⟩ (fun m s hs => ?_) (fun m i s hi hs hk => ?_)
    · rw [ff_cn_3 fb ht]
      exact hs t ht
    · refine br_t (nI_le (Nat.le_refl n) (by omega)) ?_
      refine pk_loop (fun m i (x : Int64) => wY_count_82 post fp fb s.1 s.2 m x (nI i)) (fun i x => x = lN (ff_sm (fun t => ff_cn fb n (27 + t)) i)) 27 0 0 (Nat.zero_le _) rfl (fun m x hx => ?_) (fun m i x hi hx hk => ?_)
      · rw [hx, ff_tot_y fb (by omega)]
        exact br_t (nI_le (a := 27) (b := 27) (by omega) (by omega)) (k _ _)
      · rw [hx]
        refine br_f (nI_ge (a := i) (b := 27) hi (by omega)) ⟨vp_in_nI hi (by decide), ?_⟩
        rw [nI_clamp (show i < 2 ^ 31 by omega), hs.2 i hi]
        exact nm_r (lN_add _ _) (nm_r (nI_1 i) (hk _ rfl))
    · have h3 : 3 ≤ i := hs.1
      refine br_f (nI_ge hi (by omega)) (ff_Ygrow (D := fun t => ff_cn fb i (27 + t)) hs.2 (fun nw' lr' h => ?_))
      refine nm_r (nI_1 i) (hk (nw', lr') ⟨by omega, fun t ht => ?_⟩)
      rw [ff_cn_y fb h3 ht]
      exact h t ht
  · refine br_f (nI_ge (a := i) (b := 27) hi (by omega)) (ff_Ygd (n := 3) (by omega) (show i < 27 from hi) (ff_Bz (fun hf => ⟨vp_in_nI hi (by decide), ?_⟩) (fun hf => ⟨vp_in_nI hi (by decide), ?_⟩)))
    · have hf : ff_ok fb 3 (27 + i) = false := hf
      rw [nI_clamp (show i < 2 ^ 31 by omega)]
      exact nm_e (nm_r (nI_1 i) (hk _ (ff_tl (E := fun t => ff_i (ff_ok fb 3 (27 + t))) hs (by rw [hf]; rfl))))
    · have hf : ff_ok fb 3 (27 + i) = true := hf
      rw [nI_clamp (show i < 2 ^ 31 by omega)]
      exact nm_e (nm_r (nI_1 i) (hk _ (ff_tl (E := fun t => ff_i (ff_ok fb 3 (27 + t))) hs (by rw [hf]; rfl))))
theorem ff_count (v1 : Int32) : ∃ r : Int64, (∀ post : Int64 → SX → Prop, (∀ wt' lt' : Nat → Int64, post r (fp, fb, wt', lt')) → wpX_count post (fp, fb, wt, lt) v1) ∧ (∀ post : Int64 → SY → Prop, (∀ nw' lr' : Nat → Int64, post r (fp, fb, nw', lr')) → wpY_count post (fp, fb, nw, lr) v1) := by
  rcases ff_ixN v1 30 (by decide) with h | ⟨n, hn, rfl⟩
  · refine ⟨-1, fun post k => ?_, fun post k => ?_⟩
    · unfold wpX_count; dsimp only
      rcases h with h | ⟨h, h'⟩
      · exact br_t h (k _ _)
      · exact br_f h (br_f (ff_nle.mpr h') (k _ _))
    · unfold wpY_count; dsimp only
      rcases h with h | ⟨h, h'⟩
      · exact br_t h (k _ _)
      · exact br_f h (br_f (ff_nle.mpr h') (k _ _))
  · refine ⟨lN (ff_tot fb n), fun post k => ?_, fun post k => ?_⟩
    · unfold wpX_count; dsimp only
      refine br_f (nI_pos (by omega)) (br_t (nI_le (a := n) (b := 30) hn (by decide)) (ff_Xaw hn (fun wt' lt' => ?_)))
      exact k wt' lt'
    · unfold wpY_count; dsimp only
      refine br_f (nI_pos (by omega)) (br_t (nI_le (a := n) (b := 30) hn (by decide)) ?_)
      refine pk_le 4 n (fun h => ff_Yc h hn k) (fun h => ff_Ypl (by omega) ?_)
      have hp := ff_p4 (k := n) (by omega)
      have ht := ff_tot_le fb n
      show post (nI (ff_tot fb n)).toInt64 (fp, fb, nw, lr)
      rw [nI_l (by omega)]
      exact k _ _
theorem ff_longest : ∃ r : Int32, (∀ post : Int32 → SX → Prop, (∀ wt' lt' : Nat → Int64, post r (fp, fb, wt', lt')) → wpX_longest post (fp, fb, wt, lt)) ∧ (∀ post : Int32 → Prop, post r → wpY_longest post (fp, fb, nw, lr)) := by
  refine ⟨nI (ff_lg fb 9), fun post k => ?_, fun post k => ?_⟩
  · unfold wpX_longest; dsimp only
    refine pk_loop (fun m i (s : Int32 × (Nat → Int64) × (Nat → Int64)) => wX_longest_4 post m s.1 (nI i) fp fb s.2.1 s.2.2) (fun i s => 1 ≤ i ∧ s.1 = nI (ff_lg fb (i - 1))) 10 1 (0, wt, lt) (by omega) ⟨Nat.le_refl 1, rfl⟩ (fun m s hs => ?_) (fun m i s hi hs hk => ?_)
    · obtain ⟨x, w, l⟩ := s
      obtain ⟨_, hx⟩ := hs
      dsimp only at hx ⊢
      rw [hx]
      exact br_t (nI_lt (a := 9) (b := 10) (by omega) (by omega)) (k w l)
    · obtain ⟨x, w, l⟩ := s
      obtain ⟨h1, hx⟩ := hs
      dsimp only at hx h1 ⊢
      rw [hx]
      have htot : ff_tot fb i < 2 ^ 63 := Nat.lt_of_le_of_lt (ff_tot_le fb i) (ff_pow_lt (by omega))
      have eg : ff_lg fb i = if 0 < ff_tot fb i then i else ff_lg fb (i - 1) := by
        obtain ⟨j, rfl⟩ : ∃ j, i = j + 1 := ⟨i - 1, by omega⟩
        rfl
      refine br_f (nI_nlt (a := 9) (b := i) (by omega) (by omega)) (ff_Xaw (by omega) (fun w' l' => ?_))
      show (lN (ff_tot fb i) ≤ 0 → _) ∧ (¬ lN (ff_tot fb i) ≤ 0 → _)
      refine br_c (fun h => nm_r (nI_1 i) (hk (nI (ff_lg fb (i - 1)), w', l') ⟨by omega, ?_⟩)) (fun h => nm_r (nI_1 i) (hk (nI i, w', l') ⟨by omega, ?_⟩))
      · have h := (ff_lz htot).mp h
        show nI (ff_lg fb (i - 1)) = nI (ff_lg fb (i + 1 - 1))
        rw [Nat.add_sub_cancel, eg, if_neg (by omega)]
      · have h := fun z => h ((ff_lz htot).mpr z)
        show nI i = nI (ff_lg fb (i + 1 - 1))
        rw [Nat.add_sub_cancel, eg, if_pos (Nat.pos_of_ne_zero h)]
  · unfold wpY_longest; dsimp only
    refine pk_loop (fun m i (s : Int32) => wY_longest_4 post fp fb nw lr m s (nI i)) (fun i s => 1 ≤ i ∧ s = nI (ff_lg fb (i - 1))) 10 1 0 (by omega) ⟨Nat.le_refl 1, rfl⟩ (fun m s hs => ?_) (fun m i s hi hs hk => ?_)
    · obtain ⟨_, hx⟩ := hs
      rw [hx]
      exact br_t (nI_le (a := 10) (b := 10) (by omega) (by omega)) k
    · obtain ⟨h1, hx⟩ := hs
      rw [hx]
      have hp : 3 ^ i ≤ 19683 := ff_p9 (by omega)
      have ht := ff_tot_le fb i
      have eg : ff_lg fb i = if 0 < ff_tot fb i then i else ff_lg fb (i - 1) := by
        obtain ⟨j, rfl⟩ : ∃ j, i = j + 1 := ⟨i - 1, by omega⟩
        rfl
      refine br_f (nI_ge (a := i) (b := 10) hi (by omega)) (ff_Ypl (by omega) ?_)
      refine pk_le (ff_tot fb i) 0 (fun h => nm_r (nI_1 i) (hk _ ⟨by omega, ?_⟩)) (fun h => nm_r (nI_1 i) (hk _ ⟨by omega, ?_⟩))
      · rw [Nat.add_sub_cancel, eg, if_neg (by omega)]
      · rw [Nat.add_sub_cancel, eg, if_pos h]
end
end
section
/-- the same pieces are forbidden, and both count them alike; the tables of a counting are free -/
def i_Rel (_ : Nat) (u : SX) (v : SY) : Prop := u.1 = v.1 ∧ u.2.1 = v.2.1
theorem i_up {k : Nat} {u : SX} {v : SY} (h : i_Rel k u v) : i_Rel (k + 3) u v := h
theorem i_vc0 : wpX_init (fun u => wpY_init (fun v => i_Rel 0 u v)) := ⟨rfl, rfl⟩
theorem i_vc_forbid {k : Nat} {u : SX} {v : SY} (I : i_Rel k u v) (hk : k + 3 ≤ 1536) (v1 : Int32) : wpX_forbid (fun r u' => wpY_forbid (fun r' v' => r' = r ∧ i_Rel (k + 3) u' v') v v1) u v1 := by
  obtain ⟨fp, fb, wt, lt⟩ := u
  obtain ⟨hd, br, nw, lr⟩ := v
  obtain ⟨e1, e2⟩ := I
  obtain rfl : fp = hd := e1
  obtain rfl : fb = br := e2
  unfold wpX_forbid
  dsimp only
  rcases ff_piece v1 with h | ⟨kk, q, h1, h4, hq, rfl⟩
  · refine ff_XpiN h (br_t rfl ?_)
    unfold wpY_forbid
    dsimp only
    exact ff_YleN h (br_t rfl ⟨rfl, rfl, rfl⟩)
  have hpk := ff_p4 h4
  have hin : vp_in (nI (3 ^ kk + q)) 162 := vp_in_nI (by omega) (by decide)
  refine ff_Xpi h1 h4 hq (br_f ff_n1 ⟨hin, ?_⟩)
  have hY : ∀ post : Int32 → SY → Prop, ((fb (nI (3 ^ kk + q)).toNatClampNeg = 0 → ((fp ≤ 5 → (vp_in (nI (3 ^ kk + q)) 162 ∧ ∀ y, y = upd fb (nI (3 ^ kk + q)).toNatClampNeg (vp_nar .boolean 1) → ∀ z, z = fp + 1 → post z (z, y, nw, lr))) ∧ (¬ fp ≤ 5 → post (-3) (fp, fb, nw, lr)))) ∧ (¬ fb (nI (3 ^ kk + q)).toNatClampNeg = 0 → post (-2) (fp, fb, nw, lr))) → wpY_forbid post (fp, fb, nw, lr) (nI (3 ^ kk + q)) := by
    intro post h
    unfold wpY_forbid
    dsimp only
    exact ff_Yle h1 h4 hq (br_f (nI_ne0 (by omega) (by omega)) ⟨hin, h⟩)
  have hlt : fp < 6 ↔ fp ≤ 5 := ff_lt1 (v := fp) (a := 5) (by decide)
  refine br_c (fun hz => br_c (fun h6 => ⟨hin, nm_e (nm_e ?_)⟩) (fun h6 => ?_)) (fun hz => ?_)
  · exact hY _ (br_t hz (br_t (hlt.mp h6) ⟨hin, nm_e (nm_e ⟨rfl, rfl, rfl⟩)⟩))
  · exact hY _ (br_t hz (br_f (fun z => h6 (hlt.mpr z)) ⟨rfl, rfl, rfl⟩))
  · exact hY _ (br_f hz ⟨rfl, rfl, rfl⟩)
theorem i_vc_permit {k : Nat} {u : SX} {v : SY} (I : i_Rel k u v) (hk : k + 3 ≤ 1536) (v1 : Int32) : wpX_permit (fun r u' => wpY_permit (fun r' v' => r' = r ∧ i_Rel (k + 3) u' v') v v1) u v1 := by
  obtain ⟨fp, fb, wt, lt⟩ := u
  obtain ⟨hd, br, nw, lr⟩ := v
  obtain ⟨e1, e2⟩ := I
  obtain rfl : fp = hd := e1
  obtain rfl : fb = br := e2
  unfold wpX_permit
  dsimp only
  rcases ff_piece v1 with h | ⟨kk, q, h1, h4, hq, rfl⟩
  · refine ff_XpiN h (br_t rfl ?_)
    unfold wpY_permit
    dsimp only
    exact ff_YleN h (br_t rfl ⟨rfl, rfl, rfl⟩)
  have hpk := ff_p4 h4
  have hin : vp_in (nI (3 ^ kk + q)) 162 := vp_in_nI (by omega) (by decide)
  refine ff_Xpi h1 h4 hq (br_f ff_n1 ⟨hin, ?_⟩)
  have hY : ∀ post : Int32 → SY → Prop, ((fb (nI (3 ^ kk + q)).toNatClampNeg = 0 → post (-1) (fp, fb, nw, lr)) ∧ (¬ fb (nI (3 ^ kk + q)).toNatClampNeg = 0 → (vp_in (nI (3 ^ kk + q)) 162 ∧ ∀ y, y = upd fb (nI (3 ^ kk + q)).toNatClampNeg (vp_nar .boolean 0) → ∀ z, z = fp - 1 → post z (z, y, nw, lr)))) → wpY_permit post (fp, fb, nw, lr) (nI (3 ^ kk + q)) := by
    intro post h
    unfold wpY_permit
    dsimp only
    exact ff_Yle h1 h4 hq (br_f (nI_ne0 (by omega) (by omega)) ⟨hin, h⟩)
  refine br_c (fun hz => ?_) (fun hz => ⟨hin, nm_e (nm_e ?_)⟩)
  · exact hY _ (br_t hz ⟨rfl, rfl, rfl⟩)
  · exact hY _ (br_f hz ⟨hin, nm_e (nm_e ⟨rfl, rfl, rfl⟩)⟩)
theorem i_vc_pieces {k : Nat} {u : SX} {v : SY} (I : i_Rel k u v) (hk : k + 3 ≤ 1536) : wpX_pieces (fun r => wpY_pieces (fun r' => r' = r ∧ i_Rel (k + 3) u v) v) u := by
  obtain ⟨fp, fb, wt, lt⟩ := u
  obtain ⟨hd, br, nw, lr⟩ := v
  exact ⟨I.1.symm, I⟩
theorem i_vc_allowed {k : Nat} {u : SX} {v : SY} (I : i_Rel k u v) (hk : k + 3 ≤ 1536) (v1 : Int32) (v2 : Int32) : wpX_allowed (fun r => wpY_allowed (fun r' => r' = r ∧ i_Rel (k + 3) u v) v v1 v2) u v1 v2 := by
  obtain ⟨fp, fb, wt, lt⟩ := u
  obtain ⟨hd, br, nw, lr⟩ := v
  obtain ⟨e1, e2⟩ := I
  obtain rfl : fp = hd := e1
  obtain rfl : fb = br := e2
  obtain ⟨r, hX, hY⟩ := ff_allowed (fp := fp) (fb := fb) (wt := wt) (lt := lt) (nw := nw) (lr := lr) v1 v2
  exact hX _ (hY _ ⟨rfl, rfl, rfl⟩)
theorem i_vc_countWith {k : Nat} {u : SX} {v : SY} (I : i_Rel k u v) (hk : k + 3 ≤ 1536) (v1 : Int32) (v2 : Int32) : wpX_countWith (fun r => wpY_countWith (fun r' => r' = r ∧ i_Rel (k + 3) u v) v v1 v2) u v1 v2 := by
  obtain ⟨fp, fb, wt, lt⟩ := u
  obtain ⟨hd, br, nw, lr⟩ := v
  obtain ⟨e1, e2⟩ := I
  obtain rfl : fp = hd := e1
  obtain rfl : fb = br := e2
  obtain ⟨r, hX, hY⟩ := ff_countWith (fp := fp) (fb := fb) (wt := wt) (lt := lt) (nw := nw) (lr := lr) v1 v2
  exact hX _ (hY _ ⟨rfl, rfl, rfl⟩)
theorem i_vc_rank {k : Nat} {u : SX} {v : SY} (I : i_Rel k u v) (hk : k + 3 ≤ 1536) (v1 : Int32) (v2 : Int32) : wpX_rank (fun r => wpY_rank (fun r' => r' = r ∧ i_Rel (k + 3) u v) v v1 v2) u v1 v2 := by
  obtain ⟨fp, fb, wt, lt⟩ := u
  obtain ⟨hd, br, nw, lr⟩ := v
  obtain ⟨e1, e2⟩ := I
  obtain rfl : fp = hd := e1
  obtain rfl : fb = br := e2
  obtain ⟨r, hX, hY⟩ := ff_rank (fp := fp) (fb := fb) (wt := wt) (lt := lt) (nw := nw) (lr := lr) v1 v2
  exact hX _ (hY _ ⟨rfl, rfl, rfl⟩)
theorem i_vc_word {k : Nat} {u : SX} {v : SY} (I : i_Rel k u v) (hk : k + 3 ≤ 1536) (v1 : Int32) (v2 : Int32) : wpX_word (fun r => wpY_word (fun r' => r' = r ∧ i_Rel (k + 3) u v) v v1 v2) u v1 v2 := by
  obtain ⟨fp, fb, wt, lt⟩ := u
  obtain ⟨hd, br, nw, lr⟩ := v
  obtain ⟨e1, e2⟩ := I
  obtain rfl : fp = hd := e1
  obtain rfl : fb = br := e2
  obtain ⟨r, hX, hY⟩ := ff_word (fp := fp) (fb := fb) (wt := wt) (lt := lt) (nw := nw) (lr := lr) v1 v2
  exact hX _ (hY _ ⟨rfl, rfl, rfl⟩)
theorem i_vc_next {k : Nat} {u : SX} {v : SY} (I : i_Rel k u v) (hk : k + 3 ≤ 1536) (v1 : Int32) (v2 : Int32) : wpX_next (fun r => wpY_next (fun r' => r' = r ∧ i_Rel (k + 3) u v) v v1 v2) u v1 v2 := by
  obtain ⟨fp, fb, wt, lt⟩ := u
  obtain ⟨hd, br, nw, lr⟩ := v
  obtain ⟨e1, e2⟩ := I
  obtain rfl : fp = hd := e1
  obtain rfl : fb = br := e2
  obtain ⟨r, hX, hY⟩ := ff_next (fp := fp) (fb := fb) (wt := wt) (lt := lt) (nw := nw) (lr := lr) v1 v2
  exact hX _ (hY _ ⟨rfl, rfl, rfl⟩)
theorem i_vc_beginning {k : Nat} {u : SX} {v : SY} (I : i_Rel k u v) (hk : k + 3 ≤ 1536) (v1 : Int32) (v2 : Int32) : wpX_beginning (fun r => wpY_beginning (fun r' => r' = r ∧ i_Rel (k + 3) u v) v v1 v2) u v1 v2 := by
  obtain ⟨fp, fb, wt, lt⟩ := u
  obtain ⟨hd, br, nw, lr⟩ := v
  obtain ⟨e1, e2⟩ := I
  obtain rfl : fp = hd := e1
  obtain rfl : fb = br := e2
  obtain ⟨r, hX, hY⟩ := ff_beginning (fp := fp) (fb := fb) (wt := wt) (lt := lt) (nw := nw) (lr := lr) v1 v2
  exact hX _ (hY _ ⟨rfl, rfl, rfl⟩)
theorem i_vc_ending {k : Nat} {u : SX} {v : SY} (I : i_Rel k u v) (hk : k + 3 ≤ 1536) (v1 : Int32) (v2 : Int32) : wpX_ending (fun r => wpY_ending (fun r' => r' = r ∧ i_Rel (k + 3) u v) v v1 v2) u v1 v2 := by
  obtain ⟨fp, fb, wt, lt⟩ := u
  obtain ⟨hd, br, nw, lr⟩ := v
  obtain ⟨e1, e2⟩ := I
  obtain rfl : fp = hd := e1
  obtain rfl : fb = br := e2
  obtain ⟨r, hX, hY⟩ := ff_ending (fp := fp) (fb := fb) (wt := wt) (lt := lt) (nw := nw) (lr := lr) v1 v2
  exact hX _ (hY _ ⟨rfl, rfl, rfl⟩)
theorem i_vc_standing {k : Nat} {u : SX} {v : SY} (I : i_Rel k u v) (hk : k + 3 ≤ 1536) (v1 : Int32) (v2 : Int32) : wpX_standing (fun r => wpY_standing (fun r' => r' = r ∧ i_Rel (k + 3) u v) v v1 v2) u v1 v2 := by
  obtain ⟨fp, fb, wt, lt⟩ := u
  obtain ⟨hd, br, nw, lr⟩ := v
  obtain ⟨e1, e2⟩ := I
  obtain rfl : fp = hd := e1
  obtain rfl : fb = br := e2
  obtain ⟨r, hX, hY⟩ := ff_standing (fp := fp) (fb := fb) (wt := wt) (lt := lt) (nw := nw) (lr := lr) v1 v2
  exact hX _ (hY _ ⟨rfl, rfl, rfl⟩)
theorem i_vc_choices {k : Nat} {u : SX} {v : SY} (I : i_Rel k u v) (hk : k + 3 ≤ 1536) (v1 : Int32) (v2 : Int32) : wpX_choices (fun r => wpY_choices (fun r' => r' = r ∧ i_Rel (k + 3) u v) v v1 v2) u v1 v2 := by
  obtain ⟨fp, fb, wt, lt⟩ := u
  obtain ⟨hd, br, nw, lr⟩ := v
  obtain ⟨e1, e2⟩ := I
  obtain rfl : fp = hd := e1
  obtain rfl : fb = br := e2
  obtain ⟨r, hX, hY⟩ := ff_choices (fp := fp) (fb := fb) (wt := wt) (lt := lt) (nw := nw) (lr := lr) v1 v2
  exact hX _ (hY _ ⟨rfl, rfl, rfl⟩)
theorem i_vc_mirrored {k : Nat} {u : SX} {v : SY} (I : i_Rel k u v) (hk : k + 3 ≤ 1536) (v1 : Int32) : wpX_mirrored (fun r => wpY_mirrored (fun r' => r' = r ∧ i_Rel (k + 3) u v) v v1) u v1 := by
  obtain ⟨fp, fb, wt, lt⟩ := u
  obtain ⟨hd, br, nw, lr⟩ := v
  obtain ⟨e1, e2⟩ := I
  obtain rfl : fp = hd := e1
  obtain rfl : fb = br := e2
  obtain ⟨r, hX, hY⟩ := ff_mirrored (fp := fp) (fb := fb) (wt := wt) (lt := lt) (nw := nw) (lr := lr) v1
  exact hX _ (hY _ ⟨rfl, rfl, rfl⟩)
theorem i_vc_count {k : Nat} {u : SX} {v : SY} (I : i_Rel k u v) (hk : k + 3 ≤ 1536) (v1 : Int32) : wpX_count (fun r u' => wpY_count (fun r' v' => r' = r ∧ i_Rel (k + 3) u' v') v v1) u v1 := by
  obtain ⟨fp, fb, wt, lt⟩ := u
  obtain ⟨hd, br, nw, lr⟩ := v
  obtain ⟨e1, e2⟩ := I
  obtain rfl : fp = hd := e1
  obtain rfl : fb = br := e2
  obtain ⟨r, hX, hY⟩ := ff_count (fp := fp) (fb := fb) (wt := wt) (lt := lt) (nw := nw) (lr := lr) v1
  exact hX _ (fun wt' lt' => hY _ (fun nw' lr' => ⟨rfl, rfl, rfl⟩))
theorem i_vc_longest {k : Nat} {u : SX} {v : SY} (I : i_Rel k u v) (hk : k + 3 ≤ 1536) : wpX_longest (fun r u' => wpY_longest (fun r' => r' = r ∧ i_Rel (k + 3) u' v) v) u := by
  obtain ⟨fp, fb, wt, lt⟩ := u
  obtain ⟨hd, br, nw, lr⟩ := v
  obtain ⟨e1, e2⟩ := I
  obtain rfl : fp = hd := e1
  obtain rfl : fb = br := e2
  obtain ⟨r, hX, hY⟩ := ff_longest (fp := fp) (fb := fb) (wt := wt) (lt := lt) (nw := nw) (lr := lr)
  exact hX _ (fun wt' lt' => hY _ ⟨rfl, rfl, rfl⟩)
end
