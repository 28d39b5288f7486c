theorem ff_ps3 (i : Nat) : 3 ^ i * 3 = 3 ^ (i + 1) := by rw [ff_pS]; omega
theorem ff_or {c d A B : Prop} (h : c ∨ (¬ c ∧ d)) (a : A) : (c → A) ∧ (¬ c → ((d → A) ∧ (¬ d → B))) := by
  rcases h with h | ⟨h, h'⟩
  · exact br_t h a
  · exact br_f h (br_t h' a)
theorem ff_g0 {G : Nat → Nat} {i : Nat} (h : G i = 0) : nI (ff_sm G i) = nI (ff_sm G (i + 1)) := by
  show _ = nI (ff_sm G i + G i)
  rw [h]; rfl
theorem ff_g1 {G : Nat → Nat} {i : Nat} (h : G i = 1) : nI (ff_sm G i + 1) = nI (ff_sm G (i + 1)) := by
  show _ = nI (ff_sm G i + G i)
  rw [h]
theorem ff_ga {G : Nat → Nat} {i d : Nat} (h : G i = d) : nI (ff_sm G i + d) = nI (ff_sm G (i + 1)) := by
  show _ = nI (ff_sm G i + G i)
  rw [h]
theorem ff_i1 {b : Bool} (h : b = true) : ff_i b = 1 := by rw [h]; rfl
theorem ff_i0 {b : Bool} (h : b = false) : ff_i b = 0 := by rw [h]; rfl
theorem ff_r3 {r : Nat} (hr : r < 2 ^ 31) : nI r - nI r / 3 * 3 = nI (r % 3) := pk_rem (d := 3) hr (by decide) (by decide)
theorem ff_d3 {r : Nat} (hr : r < 2 ^ 31) : nI r / 3 = nI (r / 3) := pk_div (d := 3) hr (by decide) (by decide)
theorem ff_n3 : ¬ (3 : Int32) = 0 := by decide
theorem ff_n1 : ¬ (1 : Int32) = 0 := by decide
section
variable {fp : Int32} {fb : Nat → Int32} {wt lt : Nat → Int64}
theorem ff_Xpow {post : Int32 → Prop} {n : Nat} (hn : n < 2 ^ 31) (k : post (nI (3 ^ n))) : wpX_power post (nI n) := by
  unfold wpX_power
  refine pk_loop (fun m i (s : Int32) => wX_power_4 post (nI n) m s (nI i)) (fun i s => s = nI (3 ^ i)) n 0 1 (Nat.zero_le _) rfl (fun m s hs => ?_) (fun m i s hi hs hk => ?_)
  · obtain rfl : s = nI (3 ^ n) := hs
    exact br_t (nI_le (Nat.le_refl n) hn) k
  · obtain rfl : s = nI (3 ^ i) := hs
    exact br_f (nI_ge hi hn) (nm_r (pk_mul _ 3) (nm_r (nI_1 i) (hk _ (congrArg nI (ff_ps3 i)))))
theorem ff_XLbad {post : Int32 → Prop} {v : Int32} (h : v < 0 ∨ (¬ v < 0 ∧ nI 9 < v)) (k : post 0) : wpX_isLength post v := ff_or h k
theorem ff_XLok {post : Int32 → Prop} {n : Nat} (h : n ≤ 9) (k : post 1) : wpX_isLength post (nI n) :=
  br_f (nI_pos (by omega)) (br_f (nI_nlt (a := 9) (b := n) h (by decide)) k)
theorem ff_XCbad {post : Int32 → Prop} {n : Nat} {v : Int32} (hn : n ≤ 9) (h : v < 0 ∨ (¬ v < 0 ∧ nI (3 ^ n) ≤ v)) (k : post 0) : wpX_isCode post (nI n) v := by
  unfold wpX_isCode
  rcases h with h | ⟨h, h'⟩
  · exact br_t h k
  · refine br_f h (ff_Xpow (by omega) ?_)
    exact br_t h' k
theorem ff_XCok {post : Int32 → Prop} {n c : Nat} (hn : n ≤ 9) (hc : c < 3 ^ n) (k : post 1) : wpX_isCode post (nI n) (nI c) := by
  unfold wpX_isCode
  have hp := ff_p9 hn
  refine br_f (nI_pos (by omega)) (ff_Xpow (by omega) ?_)
  exact br_f (nI_ge hc (by omega)) k
theorem ff_Xpl_n {post : Int32 → Prop} {v : Int32} (h : ff_np v) (k : post 0) : ∀ m i fu : Nat, i + m = 4 → m < fu → wX_pieceLength_4 post v fu (nI (3 ^ i)) (nI (i + 1)) := by
  intro m
  induction m with
  | zero =>
    intro i fu hi hf
    obtain ⟨fu, rfl⟩ : ∃ a, fu = a + 1 := ⟨fu - 1, by omega⟩
    exact br_t (nI_lt (a := 4) (b := i + 1) (by omega) (by omega)) k
  | succ m ih =>
    intro i fu hi hf
    obtain ⟨fu, rfl⟩ : ∃ a, fu = a + 1 := ⟨fu - 1, by omega⟩
    have e : nI (3 ^ i) * 3 = nI (3 ^ (i + 1)) := (pk_mul _ 3).trans (congrArg nI (ff_ps3 i))
    refine br_f (nI_nlt (a := 4) (b := i + 1) (by omega) (by omega)) (nm_r e ?_)
    have hz := ih (i + 1) fu (by omega) (by omega)
    rcases h i (by omega) with h1 | ⟨h1, h2⟩
    · exact br_t h1 (nm_r (nI_1 (i + 1)) hz)
    · exact br_f h1 (br_t (by rw [show (2 : Int32) * nI (3 ^ (i + 1)) = nI (2 * 3 ^ (i + 1)) from pk_mul 2 _]; exact h2) (nm_r (nI_1 (i + 1)) hz))
theorem ff_Xpl_k {post : Int32 → Prop} {kk q : Nat} (h4 : kk ≤ 4) (hq : q < 3 ^ kk) (k : post (nI kk)) : ∀ m i fu : Nat, i + 1 + m = kk → m < fu → wX_pieceLength_4 post (nI (3 ^ kk + q)) fu (nI (3 ^ i)) (nI (i + 1)) := by
  have hp := ff_p4 h4
  intro m
  induction m with
  | zero =>
    intro i fu hi hf
    obtain ⟨fu, rfl⟩ : ∃ a, fu = a + 1 := ⟨fu - 1, by omega⟩
    have e : nI (3 ^ i) * 3 = nI (3 ^ (i + 1)) := (pk_mul _ 3).trans (congrArg nI (ff_ps3 i))
    obtain rfl : kk = i + 1 := by omega
    refine br_f (nI_nlt (a := 4) (b := i + 1) (by omega) (by omega)) (nm_r e ?_)
    refine br_f (nI_nlt (by omega) (by omega)) ?_
    refine br_f ?_ k
    rw [show (2 : Int32) * nI (3 ^ (i + 1)) = nI (2 * 3 ^ (i + 1)) from pk_mul 2 _]
    exact nI_ge (by omega) (by omega)
  | succ m ih =>
    intro i fu hi hf
    obtain ⟨fu, rfl⟩ : ∃ a, fu = a + 1 := ⟨fu - 1, by omega⟩
    have e : nI (3 ^ i) * 3 = nI (3 ^ (i + 1)) := (pk_mul _ 3).trans (congrArg nI (ff_ps3 i))
    have h3 : 3 ^ (i + 2) ≤ 3 ^ kk := Nat.pow_le_pow_right (by omega) (by omega)
    have h2 : 3 ^ (i + 2) = 3 * 3 ^ (i + 1) := ff_pS (i + 1)
    generalize hP : 3 ^ (i + 1) = P at e h2
    refine br_f (nI_nlt (a := 4) (b := i + 1) (by omega) (by omega)) (nm_r e ?_)
    refine br_f (nI_nlt (by omega) (by omega)) ?_
    refine br_t ?_ (nm_r (nI_1 (i + 1)) ?_)
    · rw [show (2 : Int32) * nI P = nI (2 * P) from pk_mul 2 _]
      exact nI_le (by omega) (by omega)
    · rw [← hP]
      exact ih (i + 1) fu (by omega) (by omega)
theorem ff_XplN {post : Int32 → Prop} {v : Int32} (h : ff_np v) (k : post 0) : wpX_pieceLength post v := ⟨5, ff_Xpl_n h k 4 0 5 rfl (by omega)⟩
theorem ff_Xpl {post : Int32 → Prop} {kk q : Nat} (h1 : 1 ≤ kk) (h4 : kk ≤ 4) (hq : q < 3 ^ kk) (k : post (nI kk)) : wpX_pieceLength post (nI (3 ^ kk + q)) := ⟨kk, ff_Xpl_k h4 hq k (kk - 1) 0 kk (by omega) (by omega)⟩
theorem ff_XpiN {post : Int32 → Prop} {v : Int32} (h : ff_np v) (k : post 0) : wpX_isPiece post v := by
  unfold wpX_isPiece
  refine ff_XplN h ?_
  exact br_t (Int32.le_refl _) k
theorem ff_Xpi {post : Int32 → Prop} {kk q : Nat} (h1 : 1 ≤ kk) (h4 : kk ≤ 4) (hq : q < 3 ^ kk) (k : post 1) : wpX_isPiece post (nI (3 ^ kk + q)) := by
  unfold wpX_isPiece
  refine ff_Xpl h1 h4 hq ?_
  exact br_f (nI_nle (by omega) (by omega)) k
theorem ff_Xef_l {post : Int32 → Prop} {w : Nat} (hw : w < 2 ^ 31) : ∀ m i fu : Nat, i + m = 4 → m < fu → post (ff_B (ff_efr fb w m i)) → wX_endsForbidden_4 post (nI w) fp fb wt lt fu (nI (3 ^ i)) (nI (i + 1)) := by
  intro m
  induction m with
  | zero =>
    intro i fu hi hf k
    obtain ⟨fu, rfl⟩ : ∃ a, fu = a + 1 := ⟨fu - 1, by omega⟩
    exact br_t (nI_lt (a := 4) (b := i + 1) (by omega) (by omega)) k
  | succ m ih =>
    intro i fu hi hf k
    obtain ⟨fu, rfl⟩ : ∃ a, fu = a + 1 := ⟨fu - 1, by omega⟩
    have e : nI (3 ^ i) * 3 = nI (3 ^ (i + 1)) := (pk_mul _ 3).trans (congrArg nI (ff_ps3 i))
    have hp : 3 ^ (i + 1) ≤ 81 := ff_p4 (by omega)
    have h0 : 0 < 3 ^ (i + 1) := ff_p3 _
    have hm : w % 3 ^ (i + 1) < 3 ^ (i + 1) := Nat.mod_lt _ h0
    have hz := fun k' => ih (i + 1) fu (by omega) (by omega) k'
    have ke : ff_efr fb w (m + 1) i = ((decide (3 ^ (i + 1) ≤ w) && ff_b fb (3 ^ (i + 1) + w % 3 ^ (i + 1))) || ff_efr fb w m (i + 1)) := rfl
    rw [ke] at k
    generalize 3 ^ (i + 1) = P at e hp h0 hm hz k
    have er : nI P + (nI w - nI w / nI P * nI P) = nI (P + w % P) := by rw [pk_rem hw h0 (by omega), nI_add]
    refine br_f (nI_nlt (a := 4) (b := i + 1) (by omega) (by omega)) (nm_r e ?_)
    refine pk_lt w P (fun h => nm_r (nI_1 (i + 1)) (hz ?_)) (fun h => ⟨nI_ne0 h0 (by omega), pk_in (P + w % P) 162 (by omega) er (by decide), ff_Fz (P + w % P) (fun hb => nm_r (nI_1 (i + 1)) (hz ?_)) (fun hb => ?_) er (by omega)⟩)
    · rw [decide_eq_false (by omega), Bool.false_and, Bool.false_or] at k
      exact k
    · rw [hb, Bool.and_false, Bool.false_or] at k
      exact k
    · rw [hb, decide_eq_true h, Bool.true_and, Bool.true_or] at k
      exact k
theorem ff_Xef {post : Int32 → Prop} {w : Nat} (hw : w < 2 ^ 31) (k : post (ff_B (ff_ef fb w))) : wpX_endsForbidden post (fp, fb, wt, lt) (nI w) :=
  ⟨5, ff_Xef_l hw 4 0 5 rfl (by omega) (by rw [ff_efr_4]; exact k)⟩
theorem ff_Xal_l {post : Int32 → Prop} {n : Nat} (hn : n ≤ 10) : ∀ m i w fu : Nat, i + m = n → m < fu → w < 2 ^ 31 → post (ff_B (ff_ok fb m w)) → wX_isAllowed_10 post (nI n) fp fb wt lt fu (nI w) (nI i) := by
  intro m
  induction m with
  | zero =>
    intro i w fu hi hf hw k
    obtain ⟨fu, rfl⟩ : ∃ a, fu = a + 1 := ⟨fu - 1, by omega⟩
    exact br_t (nI_le (by omega) (by omega)) k
  | succ m ih =>
    intro i w fu hi hf hw k
    obtain ⟨fu, rfl⟩ : ∃ a, fu = a + 1 := ⟨fu - 1, by omega⟩
    have ke : ff_ok fb (m + 1) w = (!ff_ef fb w && ff_ok fb m (w / 3)) := rfl
    rw [ke] at k
    refine br_f (nI_ge (by omega) (by omega)) (ff_Xef hw ?_)
    refine ff_Bz (fun h => ⟨ff_n3, nm_r (ff_d3 hw) (nm_r (nI_1 i) (ih (i + 1) (w / 3) fu (by omega) (by omega) (by omega) ?_))⟩) (fun h => ?_)
    · rw [h, Bool.not_false, Bool.true_and] at k
      exact k
    · rw [h, Bool.not_true, Bool.false_and] at k
      exact k
theorem ff_Xal {post : Int32 → Prop} {n c : Nat} (hn : n ≤ 10) (hc : c < 3 ^ n) (k : post (ff_B (ff_ok fb n (3 ^ n + c)))) : wpX_isAllowed post (fp, fb, wt, lt) (nI n) (nI c) := by
  have hp := ff_p10 hn
  unfold wpX_isAllowed
  dsimp only
  refine ff_Xpow (by omega) ?_
  exact nm_r (nI_add _ _) ⟨n + 1, ff_Xal_l hn n 0 _ _ (by omega) (by omega) (by omega) k⟩
theorem ff_Xzr_l {post : Int32 → Prop} {n : Nat} (hn : n ≤ 10) : ∀ m i r a fu : Nat, i + m = n → m < fu → r < 2 ^ 31 → post (nI (ff_zr m r a)) → wX_zeros_7 post (nI n) fu (nI r) (nI a) (nI i) := by
  intro m
  induction m with
  | zero =>
    intro i r a fu hi hf hr k
    obtain ⟨fu, rfl⟩ : ∃ a, fu = a + 1 := ⟨fu - 1, by omega⟩
    exact br_t (nI_le (by omega) (by omega)) k
  | succ m ih =>
    intro i r a fu hi hf hr k
    obtain ⟨fu, rfl⟩ : ∃ a, fu = a + 1 := ⟨fu - 1, by omega⟩
    have ke : ff_zr (m + 1) r a = ff_zr m (r / 3) (if r % 3 = 0 then a + 1 else a) := rfl
    rw [ke] at k
    refine br_f (nI_ge (by omega) (by omega)) ⟨ff_n3, pk_eq (r % 3) 0 (fun h => nm_r (nI_1 a) ⟨ff_n3, nm_r (ff_d3 hr) (nm_r (nI_1 i) (ih (i + 1) (r / 3) (a + 1) fu (by omega) (by omega) (by omega) ?_))⟩) (fun h => ⟨ff_n3, nm_r (ff_d3 hr) (nm_r (nI_1 i) (ih (i + 1) (r / 3) a fu (by omega) (by omega) (by omega) ?_))⟩) (ff_r3 hr) rfl (by omega) (by omega)⟩
    · rw [if_pos h] at k
      exact k
    · rw [if_neg h] at k
      exact k
theorem ff_Xzr {post : Int32 → Prop} {n c : Nat} (hn : n ≤ 10) (hc : c < 2 ^ 31) (k : post (nI (ff_zr n c 0))) : wpX_zeros post (nI n) (nI c) := ⟨n + 1, ff_Xzr_l hn n 0 c 0 (n + 1) (by omega) (by omega) hc k⟩
theorem ff_Xbw_l {post : Int32 → Prop} {n : Nat} (hn : n ≤ 10) : ∀ m i r a fu : Nat, i + m = n → m < fu → r < 2 ^ 31 → post (nI (ff_bw m r a)) → wX_backward_7 post (nI n) fu (nI r) (nI a) (nI i) := by
  intro m
  induction m with
  | zero =>
    intro i r a fu hi hf hr k
    obtain ⟨fu, rfl⟩ : ∃ a, fu = a + 1 := ⟨fu - 1, by omega⟩
    exact br_t (nI_le (by omega) (by omega)) k
  | succ m ih =>
    intro i r a fu hi hf hr k
    obtain ⟨fu, rfl⟩ : ∃ a, fu = a + 1 := ⟨fu - 1, by omega⟩
    have e : nI a * 3 + (nI r - nI r / 3 * 3) = nI (a * 3 + r % 3) := by rw [ff_r3 hr, show nI a * 3 = nI (a * 3) from pk_mul a 3, nI_add]
    exact br_f (nI_ge (by omega) (by omega)) ⟨ff_n3, nm_r e ⟨ff_n3, nm_r (ff_d3 hr) (nm_r (nI_1 i) (ih (i + 1) (r / 3) (a * 3 + r % 3) fu (by omega) (by omega) (by omega) k))⟩⟩
theorem ff_Xbw {post : Int32 → Prop} {n c : Nat} (hn : n ≤ 10) (hc : c < 2 ^ 31) (k : post (nI (ff_bw n c 0))) : wpX_backward post (nI n) (nI c) := ⟨n + 1, ff_Xbw_l hn n 0 c 0 (n + 1) (by omega) (by omega) hc k⟩
theorem ff_Xpw {post : Int32 → Prop} {n kk q a : Nat} (hn : n ≤ 9) (ha : a ≤ 9) (h1 : 1 ≤ kk) (h4 : kk ≤ 4) (hq : q < 3 ^ kk) (k : post (nI (ff_pw fb n kk q a))) : wpX_allowedWithPieceBefore post (fp, fb, wt, lt) (nI n) (nI (3 ^ kk + q)) (nI a) := by
  have hp := ff_p9 hn
  have hpa := ff_p9 ha
  have hpk := ff_p4 h4
  unfold wpX_allowedWithPieceBefore
  dsimp only
  refine ff_Xpow (n := n) (by omega) ?_
  refine ff_Xpow (n := a) (by omega) ?_
  refine ff_Xpl h1 h4 hq ?_
  refine ff_Xpow (n := kk) (by omega) ?_
  refine pk_loop (fun m i (s : Int32) => wX_allowedWithPieceBefore_31 post (nI n) (nI (3 ^ kk + q)) (nI (3 ^ n)) (nI (3 ^ a)) (nI (3 ^ kk)) fp fb wt lt m s (nI i)) (fun i s => s = nI (ff_sm (fun c => if (c / 3 ^ a) % 3 ^ kk = q then ff_i (ff_ok fb n (3 ^ n + c)) else 0) i)) (3 ^ n) 0 0 (Nat.zero_le _) rfl (fun m s hs => ?_) (fun m i s hi hs hk => ?_)
  · rw [hs]
    exact br_t (nI_le (Nat.le_refl _) (by omega)) k
  · rw [hs]
    have hd : i / 3 ^ a ≤ i := Nat.div_le_self _ _
    have hm : (i / 3 ^ a) % 3 ^ kk < 3 ^ kk := Nat.mod_lt _ (ff_p3 kk)
    have e : nI (3 ^ kk) + ((nI i / nI (3 ^ a)) - (nI i / nI (3 ^ a)) / nI (3 ^ kk) * nI (3 ^ kk)) = nI (3 ^ kk + (i / 3 ^ a) % 3 ^ kk) := by
      rw [pk_div (by omega) (ff_p3 a) (by omega), pk_rem (by omega) (ff_p3 kk) (by omega), nI_add]
    refine br_f (nI_ge hi (by omega)) ⟨nI_ne0 (ff_p3 a) (by omega), nI_ne0 (ff_p3 kk) (by omega), ?_⟩
    refine pk_eq (3 ^ kk + (i / 3 ^ a) % 3 ^ kk) (3 ^ kk + q) (fun h => ff_Xal (by omega) hi (ff_Bz (fun hb => nm_r (nI_1 i) (hk _ (ff_g0 ?_))) (fun hb => nm_r (nI_1 _) (nm_r (nI_1 i) (hk _ (ff_g1 ?_)))))) (fun h => nm_r (nI_1 i) (hk _ (ff_g0 ?_))) e rfl (by omega) (by omega)
    · show (if (i / 3 ^ a) % 3 ^ kk = q then _ else 0) = 0
      rw [if_pos (by omega), ff_i0 hb]
    · show (if (i / 3 ^ a) % 3 ^ kk = q then _ else 0) = 1
      rw [if_pos (by omega), ff_i1 hb]
    · show (if (i / 3 ^ a) % 3 ^ kk = q then _ else 0) = 0
      rw [if_neg (by omega)]
end
