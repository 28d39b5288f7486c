/-! more of the pure picture: places, ranges, letters -/
theorem ff_sm_f (g : Nat → Nat) (n : Nat) : ff_sm g (n + 1) = g 0 + ff_sm (fun i => g (i + 1)) n := by
  have h := ff_sm_s g 1 n
  have e : ff_sm g 1 = g 0 := Nat.zero_add _
  have e2 : ff_sm (fun i => g (1 + i)) n = ff_sm (fun i => g (i + 1)) n := ff_sm_c fun i _ => congrArg g (Nat.add_comm 1 i)
  rw [Nat.add_comm n 1, h, e, e2]
theorem ff_rng (F g : Nat → Nat) {K L q : Nat} (hL : 0 < L) (hq : q < K) (H1 : ∀ i, i < L → F (q * L + i) = g (q * L + i)) (H0 : ∀ c, c < K * L → c / L ≠ q → F c = 0) : ff_sm F (K * L) = ff_sm (fun i => g (q * L + i)) L := by
  obtain ⟨d, hd⟩ : ∃ d, K = q + 1 + d := ⟨K - (q + 1), by omega⟩
  have e : K * L = q * L + (L + d * L) := by rw [hd, Nat.add_mul, Nat.add_mul]; omega
  have s1 := ff_sm_s F (q * L) (L + d * L)
  have s2 := ff_sm_s (fun i => F (q * L + i)) L (d * L)
  have z1 : ff_sm F (q * L) = 0 := ff_sm_z fun c hc => H0 c (by omega) (by
    have : c / L < q := (Nat.div_lt_iff_lt_mul hL).mpr hc
    omega)
  have z2 : ff_sm (fun i => F (q * L + (L + i))) (d * L) = 0 := ff_sm_z fun i hi => H0 _ (by omega) (by
    have : q + 1 ≤ (q * L + (L + i)) / L := (Nat.le_div_iff_mul_le hL).mpr (by rw [Nat.add_mul]; omega)
    omega)
  have z3 : ff_sm (fun i => F (q * L + i)) L = ff_sm (fun i => g (q * L + i)) L := ff_sm_c H1
  rw [e, s1, z1, s2, z3]
  show 0 + (ff_sm (fun i => g (q * L + i)) L + ff_sm (fun i => F (q * L + (L + i))) (d * L)) = _
  rw [z2, Nat.zero_add, Nat.add_zero]
/-- how many allowed words of length n have the piece 3 ^ k + q with just a letters after it -/
def ff_pw (f : Nat → Int32) (n k q a : Nat) : Nat := ff_sm (fun c => if (c / 3 ^ a) % 3 ^ k = q then ff_i (ff_ok f n (3 ^ n + c)) else 0) (3 ^ n)
theorem ff_begin (f : Nat → Int32) {n k q : Nat} (hk : k ≤ n) (hq : q < 3 ^ k) : ff_pw f n k q (n - k) = ff_sm (fun i => ff_i (ff_ok f n (3 ^ n + (q * 3 ^ (n - k) + i)))) (3 ^ (n - k)) := by
  have e : 3 ^ n = 3 ^ k * 3 ^ (n - k) := by rw [← Nat.pow_add]; congr 1; omega
  have hL : 0 < 3 ^ (n - k) := ff_p3 _
  have h := ff_rng (fun c => if (c / 3 ^ (n - k)) % 3 ^ k = q then ff_i (ff_ok f n (3 ^ n + c)) else 0) (fun c => ff_i (ff_ok f n (3 ^ n + c))) hL hq
    (fun i hi => by
      have e1 : (q * 3 ^ (n - k) + i) / 3 ^ (n - k) = q := by
        rw [Nat.mul_comm, Nat.mul_add_div hL, Nat.div_eq_of_lt hi, Nat.add_zero]
      show (if ((q * 3 ^ (n - k) + i) / 3 ^ (n - k)) % 3 ^ k = q then _ else 0) = _
      rw [e1, Nat.mod_eq_of_lt hq, if_pos rfl])
    (fun c hc hne => by
      have h1 : c / 3 ^ (n - k) < 3 ^ k := (Nat.div_lt_iff_lt_mul hL).mpr hc
      show (if (c / 3 ^ (n - k)) % 3 ^ k = q then _ else 0) = 0
      rw [Nat.mod_eq_of_lt h1, if_neg hne])
  rw [← e] at h
  exact h
theorem ff_end (f : Nat → Int32) {n k q : Nat} (hk : k ≤ n) : ff_sm (fun c => if k ≤ n ∧ c % 3 ^ k = q then ff_i (ff_ok f n (3 ^ n + c)) else 0) (3 ^ n) = ff_pw f n k q 0 := by
  refine ff_sm_c fun c _ => ?_
  have e : c / 3 ^ 0 = c := Nat.div_one c
  rw [e]
  by_cases h : c % 3 ^ k = q
  · rw [if_pos ⟨hk, h⟩, if_pos h]
  · rw [if_neg (fun z => h z.2), if_neg h]
theorem ff_end0 (f : Nat → Int32) {n k q : Nat} (hk : n < k) : ff_sm (fun c => if k ≤ n ∧ c % 3 ^ k = q then ff_i (ff_ok f n (3 ^ n + c)) else 0) (3 ^ n) = 0 :=
  ff_sm_z fun _ _ => if_neg (fun z => by have := z.1; omega)
/-- at how many places the piece stands, by the letters left -/
def ff_pc (k q : Nat) : Nat → Nat → Nat
  | 0, _ => 0
  | m + 1, r => (if k ≤ m + 1 ∧ r % 3 ^ k = q then 1 else 0) + ff_pc k q m (r / 3)
theorem ff_pc_sm (k q : Nat) : ∀ m r : Nat, ff_pc k q m r = ff_sm (fun i => if k ≤ m - i ∧ (r / 3 ^ i) % 3 ^ k = q then 1 else 0) m := by
  intro m
  induction m with
  | zero => intro r; rfl
  | succ m ih =>
    intro r
    rw [ff_sm_f]
    show (if k ≤ m + 1 ∧ r % 3 ^ k = q then 1 else 0) + ff_pc k q m (r / 3) = _
    rw [ih (r / 3)]
    have e0 : r / 3 ^ 0 = r := Nat.div_one r
    have e1 : m + 1 - 0 = m + 1 := rfl
    rw [e0, e1]
    congr 1
    refine ff_sm_c fun i _ => ?_
    have e2 : m + 1 - (i + 1) = m - i := by omega
    have e3 : r / 3 ^ (i + 1) = r / 3 / 3 ^ i := by rw [Nat.div_div_eq_div_mul, Nat.pow_succ, Nat.mul_comm]
    rw [e2, e3]
theorem ff_st (f : Nat → Int32) (n k q : Nat) : ff_sm (fun c => if ff_ok f n (3 ^ n + c) = true then ff_pc k q n c else 0) (3 ^ n) = ff_sm (fun i => if k ≤ n - i then ff_pw f n k q i else 0) n := by
  have e : ∀ c, c < 3 ^ n → (if ff_ok f n (3 ^ n + c) = true then ff_pc k q n c else 0) = ff_sm (fun i => if k ≤ n - i then (if (c / 3 ^ i) % 3 ^ k = q then ff_i (ff_ok f n (3 ^ n + c)) else 0) else 0) n := by
    intro c _
    cases h : ff_ok f n (3 ^ n + c) with
    | true =>
      rw [if_pos rfl, ff_pc_sm]
      refine ff_sm_c fun i _ => ?_
      by_cases h1 : k ≤ n - i
      · by_cases h2 : (c / 3 ^ i) % 3 ^ k = q
        · rw [if_pos ⟨h1, h2⟩, if_pos h1, if_pos h2]; rfl
        · rw [if_neg (fun z => h2 z.2), if_pos h1, if_neg h2]
      · rw [if_neg (fun z => h1 z.1), if_neg h1]
    | false =>
      rw [if_neg (by decide)]
      refine (ff_sm_z fun i _ => ?_).symm
      by_cases h1 : k ≤ n - i
      · by_cases h2 : (c / 3 ^ i) % 3 ^ k = q
        · rw [if_pos h1, if_pos h2]; rfl
        · rw [if_pos h1, if_neg h2]
      · rw [if_neg h1]
  rw [ff_sm_c e, ff_sm_w (fun c i => if k ≤ n - i then (if (c / 3 ^ i) % 3 ^ k = q then ff_i (ff_ok f n (3 ^ n + c)) else 0) else 0) n (3 ^ n)]
  refine ff_sm_c fun i _ => ?_
  by_cases h1 : k ≤ n - i
  · rw [if_pos h1]
    exact ff_sm_c fun c _ => if_pos h1
  · rw [if_neg h1]
    exact ff_sm_z fun c _ => if_neg h1
theorem ff_stand (f : Nat → Int32) {n k q : Nat} (h1 : 1 ≤ k) (hk : k ≤ n) : ff_sm (fun c => if ff_ok f n (3 ^ n + c) = true then ff_pc k q n c else 0) (3 ^ n) = ff_sm (ff_pw f n k q) (n - k + 1) := by
  rw [ff_st]
  have s := ff_sm_s (fun i => if k ≤ n - i then ff_pw f n k q i else 0) (n - k + 1) (k - 1)
  have e : n - k + 1 + (k - 1) = n := by omega
  rw [e] at s
  have z : ff_sm (fun i => (fun i => if k ≤ n - i then ff_pw f n k q i else 0) (n - k + 1 + i)) (k - 1) = 0 := ff_sm_z fun i _ => if_neg (by omega)
  rw [s, z, Nat.add_zero]
  exact ff_sm_c fun i hi => if_pos (by omega)
theorem ff_stand0 (f : Nat → Int32) {n k q : Nat} (hk : n < k) : ff_sm (fun c => if ff_ok f n (3 ^ n + c) = true then ff_pc k q n c else 0) (3 ^ n) = 0 := by
  rw [ff_st]
  exact ff_sm_z fun i _ => if_neg (by omega)
/-- the reference's four tests at a word's end -/
theorem ff_ef_y (f : Nat → Int32) {m r : Nat} (hr : r < 3 ^ (m + 1)) : ff_ef f (3 ^ (m + 1) + r) = (ff_b f (3 + r % 3) || ((decide (1 ≤ m) && ff_b f (9 + r % 9)) || ((decide (2 ≤ m) && ff_b f (27 + r % 27)) || (decide (3 ≤ m) && ff_b f (81 + r % 81))))) := by
  unfold ff_ef
  match m, hr with
  | 0, hr =>
    have hr : r < 3 := hr
    show ((decide (3 ≤ 3 + r) && ff_b f (3 + (3 + r) % 3)) || ((decide (9 ≤ 3 + r) && ff_b f (9 + (3 + r) % 9)) || ((decide (27 ≤ 3 + r) && ff_b f (27 + (3 + r) % 27)) || (decide (81 ≤ 3 + r) && ff_b f (81 + (3 + r) % 81))))) = _
    rw [decide_eq_true (show 3 ≤ 3 + r by omega), decide_eq_false (show ¬ 9 ≤ 3 + r by omega), decide_eq_false (show ¬ 27 ≤ 3 + r by omega), decide_eq_false (show ¬ 81 ≤ 3 + r by omega)]
    have e : (3 + r) % 3 = r % 3 := by omega
    rw [e]
    rfl
  | 1, hr =>
    have hr : r < 9 := hr
    show ((decide (3 ≤ 9 + r) && ff_b f (3 + (9 + r) % 3)) || ((decide (9 ≤ 9 + r) && ff_b f (9 + (9 + r) % 9)) || ((decide (27 ≤ 9 + r) && ff_b f (27 + (9 + r) % 27)) || (decide (81 ≤ 9 + r) && ff_b f (81 + (9 + r) % 81))))) = _
    rw [decide_eq_true (show 3 ≤ 9 + r by omega), decide_eq_true (show 9 ≤ 9 + r by omega), decide_eq_false (show ¬ 27 ≤ 9 + r by omega), decide_eq_false (show ¬ 81 ≤ 9 + r by omega)]
    have e : (9 + r) % 3 = r % 3 := by omega
    have e' : (9 + r) % 9 = r % 9 := by omega
    rw [e, e']
    rfl
  | 2, hr =>
    have hr : r < 27 := hr
    show ((decide (3 ≤ 27 + r) && ff_b f (3 + (27 + r) % 3)) || ((decide (9 ≤ 27 + r) && ff_b f (9 + (27 + r) % 9)) || ((decide (27 ≤ 27 + r) && ff_b f (27 + (27 + r) % 27)) || (decide (81 ≤ 27 + r) && ff_b f (81 + (27 + r) % 81))))) = _
    rw [decide_eq_true (show 3 ≤ 27 + r by omega), decide_eq_true (show 9 ≤ 27 + r by omega), decide_eq_true (show 27 ≤ 27 + r by omega), decide_eq_false (show ¬ 81 ≤ 27 + r by omega)]
    have e : (27 + r) % 3 = r % 3 := by omega
    have e' : (27 + r) % 9 = r % 9 := by omega
    have e'' : (27 + r) % 27 = r % 27 := by omega
    rw [e, e', e'']
    rfl
  | m + 3, hr =>
    have hp : 3 ^ (m + 3 + 1) = 81 * 3 ^ m := by rw [Nat.pow_succ, Nat.pow_succ, Nat.pow_succ, Nat.pow_succ]; omega
    have h0 : 0 < 3 ^ m := ff_p3 m
    rw [hp]
    generalize 3 ^ m = P at h0
    rw [decide_eq_true (show 3 ≤ 81 * P + r by omega), decide_eq_true (show 9 ≤ 81 * P + r by omega), decide_eq_true (show 27 ≤ 81 * P + r by omega), decide_eq_true (show 81 ≤ 81 * P + r by omega), decide_eq_true (show 1 ≤ m + 3 by omega), decide_eq_true (show 2 ≤ m + 3 by omega), decide_eq_true (show 3 ≤ m + 3 by omega)]
    have e : (81 * P + r) % 3 = r % 3 := by omega
    have e' : (81 * P + r) % 9 = r % 9 := by omega
    have e'' : (81 * P + r) % 27 = r % 27 := by omega
    have e3 : (81 * P + r) % 81 = r % 81 := by omega
    rw [e, e', e'', e3]
    rfl
theorem ff_ok_s (f : Nat → Int32) (n w c : Nat) (hc : c < 3) : ff_ok f (n + 1) (3 * w + c) = (!ff_ef f (3 * w + c) && ff_ok f n w) := by
  show (!ff_ef f (3 * w + c) && ff_ok f n ((3 * w + c) / 3)) = _
  have : (3 * w + c) / 3 = w := by omega
  rw [this]
theorem ff_pS (n : Nat) : 3 ^ (n + 1) = 3 * 3 ^ n := by rw [Nat.pow_succ]; omega
theorem ff_p9 {n : Nat} (h : n ≤ 9) : 3 ^ n ≤ 19683 := Nat.le_trans (Nat.pow_le_pow_right (by omega) h) (show 3 ^ 9 ≤ 19683 by decide)
theorem ff_p10 {n : Nat} (h : n ≤ 10) : 3 ^ n ≤ 59049 := Nat.le_trans (Nat.pow_le_pow_right (by omega) h) (show 3 ^ 10 ≤ 59049 by decide)
theorem ff_p4 {k : Nat} (h : k ≤ 4) : 3 ^ k ≤ 81 := Nat.le_trans (Nat.pow_le_pow_right (by omega) h) (show 3 ^ 4 ≤ 81 by decide)
/-- letters 0, and the word read from its end -/
def ff_zr : Nat → Nat → Nat → Nat
  | 0, _, a => a
  | m + 1, r, a => ff_zr m (r / 3) (if r % 3 = 0 then a + 1 else a)
def ff_bw : Nat → Nat → Nat → Nat
  | 0, _, a => a
  | m + 1, r, a => ff_bw m (r / 3) (a * 3 + r % 3)
/-- the i-th allowed word, the next allowed word -/
def ff_wd (f : Nat → Int32) (n : Nat) (v : Int32) : Nat → Nat → Nat → Int32
  | 0, _, _ => -2
  | m + 1, c, a => if ff_ok f n (3 ^ n + c) = true then (if nI a = v then nI c else ff_wd f n v m (c + 1) (a + 1)) else ff_wd f n v m (c + 1) a
def ff_nx (f : Nat → Int32) (n : Nat) (v : Int32) : Nat → Nat → Int32
  | 0, _ => -2
  | m + 1, c => if v < nI c ∧ ff_ok f n (3 ^ n + c) = true then nI c else ff_nx f n v m (c + 1)
/-- the longest length with an allowed word -/
def ff_lg (f : Nat → Int32) : Nat → Nat
  | 0 => 0
  | n + 1 => if 0 < ff_tot f (n + 1) then n + 1 else ff_lg f n
theorem ff_lg_le (f : Nat → Int32) : ∀ n : Nat, ff_lg f n ≤ n := by
  intro n
  induction n with
  | zero => exact Nat.le_refl _
  | succ n ih =>
    show (if 0 < ff_tot f (n + 1) then n + 1 else ff_lg f n) ≤ n + 1
    split <;> omega
