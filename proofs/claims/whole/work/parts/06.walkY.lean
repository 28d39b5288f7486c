section
variable {hd : Int32} {fb : Nat → Int32} {nw lr : Nat → Int64}
theorem ff_Ypow {post : Int32 → Prop} {n : Nat} (hn : n < 2 ^ 31) (k : post (nI (3 ^ n))) : wpY_power post (hd, fb, nw, lr) (nI n) := by
  unfold wpY_power
  dsimp only
  refine pk_loop (fun m i (s : Int32) => wY_power_4 post (nI n) hd fb nw lr m s (nI i)) (fun i s => s = nI (3 ^ i)) n 0 1 (Nat.zero_le _) rfl (fun m s hs => ?_) (fun m i s hi hs hk => ?_)
  · obtain rfl : s = nI (3 ^ n) := hs
    exact br_t (nI_le (Nat.le_refl n) hn) k
  · obtain rfl : s = nI (3 ^ i) := hs
    exact br_f (nI_ge hi hn) (nm_r (pk_mul 3 _) (nm_r (nI_1 i) (hk _ (congrArg nI (ff_pS i).symm))))
theorem ff_YLbad {post : Int32 → Prop} {v : Int32} (h : v < 0 ∨ (¬ v < 0 ∧ nI 9 < v)) (k : post 1) : wpY_badLength post (hd, fb, nw, lr) v := by
  unfold wpY_badLength
  dsimp only
  rcases h with h | ⟨h, h'⟩
  · exact br_t h k
  · exact br_f h (br_f (ff_nle.mpr h') k)
theorem ff_YLok {post : Int32 → Prop} {n : Nat} (h : n ≤ 9) (k : post 0) : wpY_badLength post (hd, fb, nw, lr) (nI n) := by
  unfold wpY_badLength
  dsimp only
  exact br_f (nI_pos (by omega)) (br_t (nI_le (a := n) (b := 9) h (by decide)) k)
theorem ff_YCbad {post : Int32 → Prop} {n : Nat} {v : Int32} (hn : n ≤ 9) (h : v < 0 ∨ (¬ v < 0 ∧ nI (3 ^ n) ≤ v)) (k : post 1) : wpY_badCode post (hd, fb, nw, lr) (nI n) v := by
  unfold wpY_badCode
  dsimp only
  rcases h with h | ⟨h, h'⟩
  · exact br_t h k
  · refine br_f h (ff_Ypow (by omega) ?_)
    exact br_f (ff_nlt.mpr h') k
theorem ff_YCok {post : Int32 → Prop} {n c : Nat} (hn : n ≤ 9) (hc : c < 3 ^ n) (k : post 0) : wpY_badCode post (hd, fb, nw, lr) (nI n) (nI c) := by
  unfold wpY_badCode
  dsimp only
  have hp := ff_p9 hn
  refine br_f (nI_pos (by omega)) (ff_Ypow (by omega) ?_)
  exact br_t (nI_lt hc (by omega)) k
theorem ff_YleN {post : Int32 → Prop} {v : Int32} (h : ff_np v) (k : post 0) : wpY_letters post (hd, fb, nw, lr) v := by
  obtain ⟨h1, h2, h3, h4⟩ := ff_npY h
  unfold wpY_letters
  dsimp only
  refine ff_or h1 ?_
  unfold wY_letters_13
  refine ff_or h2 ?_
  unfold wY_letters_27
  refine ff_or h3 ?_
  unfold wY_letters_41
  exact ff_or h4 k
theorem ff_Yle1 {post : Int32 → Prop} {p : Nat} (a : 3 ≤ p) (b : p < 6) (k : post 1) : wpY_letters post (hd, fb, nw, lr) (nI p) := by
  unfold wpY_letters
  dsimp only
  exact br_f (nI_ge (a := 2) (b := p) (by omega) (by omega)) (br_f (nI_ge (a := p) (b := 6) (by omega) (by omega)) k)
theorem ff_Yle2 {post : Int32 → Prop} {p : Nat} (a : 9 ≤ p) (b : p < 18) (k : post 2) : wpY_letters post (hd, fb, nw, lr) (nI p) := by
  unfold wpY_letters
  dsimp only
  refine br_f (nI_ge (a := 2) (b := p) (by omega) (by omega)) (br_t (nI_le (a := 6) (b := p) (by omega) (by omega)) ?_)
  unfold wY_letters_13
  exact br_f (nI_ge (a := 8) (b := p) (by omega) (by omega)) (br_f (nI_ge (a := p) (b := 18) (by omega) (by omega)) k)
theorem ff_Yle3 {post : Int32 → Prop} {p : Nat} (a : 27 ≤ p) (b : p < 54) (k : post 3) : wpY_letters post (hd, fb, nw, lr) (nI p) := by
  unfold wpY_letters
  dsimp only
  refine br_f (nI_ge (a := 2) (b := p) (by omega) (by omega)) (br_t (nI_le (a := 6) (b := p) (by omega) (by omega)) ?_)
  unfold wY_letters_13
  refine br_f (nI_ge (a := 8) (b := p) (by omega) (by omega)) (br_t (nI_le (a := 18) (b := p) (by omega) (by omega)) ?_)
  unfold wY_letters_27
  exact br_f (nI_ge (a := 26) (b := p) (by omega) (by omega)) (br_f (nI_ge (a := p) (b := 54) (by omega) (by omega)) k)
theorem ff_Yle4 {post : Int32 → Prop} {p : Nat} (a : 81 ≤ p) (b : p < 162) (k : post 4) : wpY_letters post (hd, fb, nw, lr) (nI p) := by
  unfold wpY_letters
  dsimp only
  refine br_f (nI_ge (a := 2) (b := p) (by omega) (by omega)) (br_t (nI_le (a := 6) (b := p) (by omega) (by omega)) ?_)
  unfold wY_letters_13
  refine br_f (nI_ge (a := 8) (b := p) (by omega) (by omega)) (br_t (nI_le (a := 18) (b := p) (by omega) (by omega)) ?_)
  unfold wY_letters_27
  refine br_f (nI_ge (a := 26) (b := p) (by omega) (by omega)) (br_t (nI_le (a := 54) (b := p) (by omega) (by omega)) ?_)
  unfold wY_letters_41
  exact br_f (nI_ge (a := 80) (b := p) (by omega) (by omega)) (br_f (nI_ge (a := p) (b := 162) (by omega) (by omega)) k)
theorem ff_Yle {post : Int32 → Prop} {kk q : Nat} (h1 : 1 ≤ kk) (h4 : kk ≤ 4) (hq : q < 3 ^ kk) (k : post (nI kk)) : wpY_letters post (hd, fb, nw, lr) (nI (3 ^ kk + q)) := by
  match kk, h1, h4, hq, k with
  | 1, _, _, hq, k =>
    have hq : q < 3 := hq
    exact ff_Yle1 (p := 3 ^ 1 + q) (by omega) (by omega) k
  | 2, _, _, hq, k =>
    have hq : q < 9 := hq
    exact ff_Yle2 (p := 3 ^ 2 + q) (by omega) (by omega) k
  | 3, _, _, hq, k =>
    have hq : q < 27 := hq
    exact ff_Yle3 (p := 3 ^ 3 + q) (by omega) (by omega) k
  | 4, _, _, hq, k =>
    have hq : q < 81 := hq
    exact ff_Yle4 (p := 3 ^ 4 + q) (by omega) (by omega) k
theorem ff_Yg71 {post : Int32 → Prop} {J : Int32 → Int32 → Prop} {m r : Nat} (hr : r < 2 ^ 31) (hm : m ≤ 10) (kt : (decide (3 ≤ m) && ff_b fb (81 + r % 81)) = true → post 0) (kf : (decide (3 ≤ m) && ff_b fb (81 + r % 81)) = false → J (nI (r / 3)) (nI m)) : wY_good_71 post J (nI r) (nI (m + 1)) hd fb nw lr := by
  have e : 81 + (nI r - nI r / 81 * 81) = nI (81 + r % 81) := by
    rw [show nI r - nI r / 81 * 81 = nI (r % 81) from pk_rem (d := 81) hr (by decide) (by decide)]; exact nI_add 81 _
  unfold wY_good_71
  refine pk_le (m + 1) 3 (fun h => ⟨ff_n3, nm_r (ff_d3 hr) (nm_r (pk_m1 m) (kf ?_))⟩) (fun h => ⟨by decide, pk_in (81 + r % 81) 162 (by omega) e (by decide), ff_Fz (81 + r % 81) (fun hb => ⟨ff_n3, nm_r (ff_d3 hr) (nm_r (pk_m1 m) (kf ?_))⟩) (fun hb => kt ?_) e (by omega)⟩)
  · rw [decide_eq_false (by omega), Bool.false_and]
  · rw [hb, Bool.and_false]
  · rw [hb, decide_eq_true (by omega), Bool.true_and]
theorem ff_Yg48 {post : Int32 → Prop} {J : Int32 → Int32 → Prop} {m r : Nat} (hr : r < 2 ^ 31) (hm : m ≤ 10) (kt : ((decide (2 ≤ m) && ff_b fb (27 + r % 27)) || (decide (3 ≤ m) && ff_b fb (81 + r % 81))) = true → post 0) (kf : ((decide (2 ≤ m) && ff_b fb (27 + r % 27)) || (decide (3 ≤ m) && ff_b fb (81 + r % 81))) = false → J (nI (r / 3)) (nI m)) : wY_good_48 post J (nI r) (nI (m + 1)) hd fb nw lr := by
  have e : 27 + (nI r - nI r / 27 * 27) = nI (27 + r % 27) := by
    rw [show nI r - nI r / 27 * 27 = nI (r % 27) from pk_rem (d := 27) hr (by decide) (by decide)]; exact nI_add 27 _
  have hz : (decide (2 ≤ m) && ff_b fb (27 + r % 27)) = false → wY_good_71 post J (nI r) (nI (m + 1)) hd fb nw lr := by
    intro h
    rw [h, Bool.false_or] at kt kf
    exact ff_Yg71 hr hm kt kf
  unfold wY_good_48
  refine pk_le (m + 1) 2 (fun h => hz ?_) (fun h => ⟨by decide, pk_in (27 + r % 27) 162 (by omega) e (by decide), ff_Fz (27 + r % 27) (fun hb => hz ?_) (fun hb => kt ?_) e (by omega)⟩)
  · rw [decide_eq_false (by omega), Bool.false_and]
  · rw [hb, Bool.and_false]
  · rw [hb, decide_eq_true (by omega), Bool.true_and, Bool.true_or]
theorem ff_Ygd_l {post : Int32 → Prop} : ∀ m r fu : Nat, m < fu → m ≤ 10 → r < 3 ^ m → post (ff_B (ff_ok fb m (3 ^ m + r))) → wY_good_5 post hd fb nw lr fu (nI r) (nI m) := by
  intro m
  induction m with
  | zero =>
    intro r fu hf _ _ k
    obtain ⟨fu, rfl⟩ : ∃ a, fu = a + 1 := ⟨fu - 1, by omega⟩
    exact br_t (Int32.le_refl _) k
  | succ m ih =>
    intro r fu hf hm hr k
    obtain ⟨fu, rfl⟩ : ∃ a, fu = a + 1 := ⟨fu - 1, by omega⟩
    have hp : 3 ^ (m + 1) ≤ 59049 := ff_p10 hm
    have hr31 : r < 2 ^ 31 := by omega
    have hdv : (3 ^ (m + 1) + r) / 3 = 3 ^ m + r / 3 := by have := ff_pS m; omega
    have hr3 : r / 3 < 3 ^ m := by have := ff_pS m; omega
    have ke : ff_ok fb (m + 1) (3 ^ (m + 1) + r) = (!ff_ef fb (3 ^ (m + 1) + r) && ff_ok fb m ((3 ^ (m + 1) + r) / 3)) := rfl
    rw [ke, hdv, ff_ef_y fb hr] at k
    have e1 : 3 + (nI r - nI r / 3 * 3) = nI (3 + r % 3) := by
      rw [ff_r3 hr31]; exact nI_add 3 _
    have e2 : 9 + (nI r - nI r / 9 * 9) = nI (9 + r % 9) := by
      rw [show nI r - nI r / 9 * 9 = nI (r % 9) from pk_rem (d := 9) hr31 (by decide) (by decide)]; exact nI_add 9 _
    have hz : ff_b fb (3 + r % 3) = false → (decide (1 ≤ m) && ff_b fb (9 + r % 9)) = false → wY_good_48 post (wY_good_5 post hd fb nw lr fu) (nI r) (nI (m + 1)) hd fb nw lr := by
      intro h1 h2
      rw [h1, h2, Bool.false_or, Bool.false_or] at k
      refine ff_Yg48 hr31 (by omega) (fun h => ?_) (fun h => ih (r / 3) fu (by omega) (by omega) hr3 ?_)
      · rw [h, Bool.not_true, Bool.false_and] at k
        exact k
      · rw [h, Bool.not_false, Bool.true_and] at k
        exact k
    refine br_f (nI_nle (by omega) (by omega)) ⟨ff_n3, pk_in (3 + r % 3) 162 (by omega) e1 (by decide), ff_Fz (3 + r % 3) (fun h1 => ?_) (fun h1 => ?_) e1 (by omega)⟩
    · refine pk_le (m + 1) 1 (fun h => hz h1 ?_) (fun h => ⟨by decide, pk_in (9 + r % 9) 162 (by omega) e2 (by decide), ff_Fz (9 + r % 9) (fun h2 => hz h1 ?_) (fun h2 => ?_) e2 (by omega)⟩)
      · rw [decide_eq_false (by omega), Bool.false_and]
      · rw [h2, Bool.and_false]
      · rw [h2, decide_eq_true (show 1 ≤ m by omega), Bool.true_and, Bool.true_or, Bool.or_true, Bool.not_true, Bool.false_and] at k
        exact k
    · rw [h1, Bool.true_or, Bool.not_true, Bool.false_and] at k
      exact k
theorem ff_Ygd {post : Int32 → Prop} {n c : Nat} (hn : n ≤ 10) (hc : c < 3 ^ n) (k : post (ff_B (ff_ok fb n (3 ^ n + c)))) : wpY_good post (hd, fb, nw, lr) (nI n) (nI c) := ⟨n + 1, ff_Ygd_l n c (n + 1) (by omega) hn hc k⟩
theorem ff_Yzr_l {post : Int32 → Prop} {n : Nat} (hn : n ≤ 10) : ∀ m i r a fu : Nat, i + m = n → m < fu → r < 2 ^ 31 → post (nI (ff_zr m r a)) → wY_zeros_8 post (nI n) hd fb nw lr fu (nI r) (nI a) (nI i) := by
  intro m
  induction m with
  | zero =>
    intro i r a fu hi hf hr k
    obtain ⟨fu, rfl⟩ : ∃ a, fu = a + 1 := ⟨fu - 1, by omega⟩
    exact br_t (nI_le (by omega) (by omega)) k
  | succ m ih =>
    intro i r a fu hi hf hr k
    obtain ⟨fu, rfl⟩ : ∃ a, fu = a + 1 := ⟨fu - 1, by omega⟩
    have ke : ff_zr (m + 1) r a = ff_zr m (r / 3) (if r % 3 = 0 then a + 1 else a) := rfl
    rw [ke] at k
    refine br_f (nI_ge (by omega) (by omega)) ⟨ff_n3, pk_eq (r % 3) 0 (fun h => nm_r (nI_1 a) ⟨ff_n3, nm_r (ff_d3 hr) (nm_r (nI_1 i) (ih (i + 1) (r / 3) (a + 1) fu (by omega) (by omega) (by omega) ?_))⟩) (fun h => ⟨ff_n3, nm_r (ff_d3 hr) (nm_r (nI_1 i) (ih (i + 1) (r / 3) a fu (by omega) (by omega) (by omega) ?_))⟩) (ff_r3 hr) rfl (by omega) (by omega)⟩
    · rw [if_pos h] at k
      exact k
    · rw [if_neg h] at k
      exact k
theorem ff_Yzr {post : Int32 → Prop} {n c : Nat} (hn : n ≤ 10) (hc : c < 2 ^ 31) (k : post (nI (ff_zr n c 0))) : wpY_zeros post (hd, fb, nw, lr) (nI n) (nI c) := ⟨n + 1, ff_Yzr_l hn n 0 c 0 (n + 1) (by omega) (by omega) hc k⟩
theorem ff_Ybw_l {post : Int32 → Prop} {n : Nat} (hn : n ≤ 10) : ∀ m i r a fu : Nat, i + m = n → m < fu → r < 2 ^ 31 → post (nI (ff_bw m r a)) → wY_backward_8 post (nI n) hd fb nw lr fu (nI r) (nI a) (nI i) := by
  intro m
  induction m with
  | zero =>
    intro i r a fu hi hf hr k
    obtain ⟨fu, rfl⟩ : ∃ a, fu = a + 1 := ⟨fu - 1, by omega⟩
    exact br_t (nI_le (by omega) (by omega)) k
  | succ m ih =>
    intro i r a fu hi hf hr k
    obtain ⟨fu, rfl⟩ : ∃ a, fu = a + 1 := ⟨fu - 1, by omega⟩
    have e : 3 * nI a + (nI r - nI r / 3 * 3) = nI (a * 3 + r % 3) := by rw [ff_r3 hr, show 3 * nI a = nI (a * 3) from (pk_mul 3 a).trans (congrArg nI (Nat.mul_comm 3 a)), nI_add]
    exact br_f (nI_ge (by omega) (by omega)) ⟨ff_n3, nm_r e ⟨ff_n3, nm_r (ff_d3 hr) (nm_r (nI_1 i) (ih (i + 1) (r / 3) (a * 3 + r % 3) fu (by omega) (by omega) (by omega) k))⟩⟩
theorem ff_Ybw {post : Int32 → Prop} {n c : Nat} (hn : n ≤ 10) (hc : c < 2 ^ 31) (k : post (nI (ff_bw n c 0))) : wpY_backward post (hd, fb, nw, lr) (nI n) (nI c) := ⟨n + 1, ff_Ybw_l hn n 0 c 0 (n + 1) (by omega) (by omega) hc k⟩
theorem ff_Yst {post : Int32 → Prop} {l r kk q : Nat} (hl : l ≤ 10) (hr : r < 2 ^ 31) (h4 : kk ≤ 4) (hq : q < 3 ^ kk) (k : post (ff_B (decide (kk ≤ l ∧ r % 3 ^ kk = q)))) : wpY_stands post (hd, fb, nw, lr) (nI l) (nI r) (nI (3 ^ kk + q)) (nI kk) := by
  have hp := ff_p4 h4
  have h0 := ff_p3 kk
  have e2 : nI (3 ^ kk + q) - nI (3 ^ kk) = nI q := (pk_sub (Nat.le_add_right _ _)).trans (congrArg nI (Nat.add_sub_cancel_left _ _))
  have hm : r % 3 ^ kk < 3 ^ kk := Nat.mod_lt _ h0
  unfold wpY_stands
  dsimp only
  refine ff_Ypow (by omega) ?_
  refine pk_lt l kk (fun h => ?_) (fun h => br_f (nI_nle h0 (by omega)) ⟨nI_ne0 h0 (by omega), pk_eq (r % 3 ^ kk) q (fun e => ?_) (fun e => ?_) (pk_rem hr h0 (by omega)) e2 (by omega) (by omega)⟩)
  · rw [decide_eq_false (fun z => by have := z.1; omega)] at k
    exact k
  · rw [decide_eq_true ⟨h, e⟩] at k
    exact k
  · rw [decide_eq_false (fun z => e z.2)] at k
    exact k
theorem ff_Ypc_l {post : Int32 → Prop} {kk q : Nat} (h4 : kk ≤ 4) (hq : q < 3 ^ kk) : ∀ m r a fu : Nat, m < fu → m ≤ 10 → r < 2 ^ 31 → post (nI (a + ff_pc kk q m r)) → wY_places_9 post (nI (3 ^ kk + q)) (nI kk) hd fb nw lr fu (nI r) (nI a) (nI m) := by
  intro m
  induction m with
  | zero =>
    intro r a fu hf _ _ k
    obtain ⟨fu, rfl⟩ : ∃ a, fu = a + 1 := ⟨fu - 1, by omega⟩
    exact br_t (Int32.le_refl _) k
  | succ m ih =>
    intro r a fu hf hm hr k
    obtain ⟨fu, rfl⟩ : ∃ a, fu = a + 1 := ⟨fu - 1, by omega⟩
    have ke : ff_pc kk q (m + 1) r = (if kk ≤ m + 1 ∧ r % 3 ^ kk = q then 1 else 0) + ff_pc kk q m (r / 3) := rfl
    rw [ke] at k
    refine br_f (nI_nle (by omega) (by omega)) (ff_Yst hm hr h4 hq ?_)
    refine ff_Bz (fun h => ⟨ff_n3, nm_r (ff_d3 hr) (nm_r (pk_m1 m) (ih (r / 3) a fu (by omega) (by omega) (by omega) ?_))⟩) (fun h => nm_r (nI_1 a) ⟨ff_n3, nm_r (ff_d3 hr) (nm_r (pk_m1 m) (ih (r / 3) (a + 1) fu (by omega) (by omega) (by omega) ?_))⟩)
    · rw [if_neg (of_decide_eq_false h), Nat.zero_add] at k
      exact k
    · rw [if_pos (of_decide_eq_true h), ← Nat.add_assoc] at k
      exact k
theorem ff_Ypc {post : Int32 → Prop} {n c kk q : Nat} (h4 : kk ≤ 4) (hq : q < 3 ^ kk) (hn : n ≤ 10) (hc : c < 2 ^ 31) (k : post (nI (ff_pc kk q n c))) : wpY_places post (hd, fb, nw, lr) (nI n) (nI c) (nI (3 ^ kk + q)) (nI kk) := ⟨n + 1, ff_Ypc_l h4 hq n c 0 (n + 1) (by omega) hn hc (by rw [Nat.zero_add]; exact k)⟩
theorem ff_Ypl {post : Int32 → Prop} {n : Nat} (hn : n ≤ 9) (k : post (nI (ff_tot fb n))) : wpY_plainCount post (hd, fb, nw, lr) (nI n) := by
  have hp := ff_p9 hn
  unfold wpY_plainCount
  dsimp only
  refine ff_Ypow (by omega) ?_
  refine pk_loop (fun m i (s : Int32) => wY_plainCount_11 post (nI n) (nI (3 ^ n)) hd fb nw lr m s (nI i)) (fun i s => s = nI (ff_sm (fun c => ff_i (ff_ok fb n (3 ^ n + c))) i)) (3 ^ n) 0 0 (Nat.zero_le _) rfl (fun m s hs => ?_) (fun m i s hi hs hk => ?_)
  · rw [hs]
    exact br_t (nI_le (Nat.le_refl _) (by omega)) k
  · rw [hs]
    exact br_f (nI_ge hi (by omega)) (ff_Ygd (by omega) hi (ff_Bz (fun hb => nm_r (nI_1 i) (hk _ (ff_g0 (ff_i0 hb)))) (fun hb => nm_r (nI_1 _) (nm_r (nI_1 i) (hk _ (ff_g1 (ff_i1 hb)))))))
end
