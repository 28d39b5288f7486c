section
variable {fp : Int32} {fb : Nat → Int32} {wt lt nw lr : Nat → Int64}
theorem ff_beginning (v1 v2 : Int32) : ∃ r : Int32, (∀ post : Int32 → Prop, post r → wpX_beginning post (fp, fb, wt, lt) v1 v2) ∧ (∀ post : Int32 → Prop, post r → wpY_beginning post (fp, fb, nw, lr) v1 v2) := by
  rcases ff_ixN v1 9 (by decide) with h | ⟨n, hn, rfl⟩
  · refine ⟨-1, fun post k => ?_, fun post k => ?_⟩
    · unfold wpX_beginning; dsimp only
      exact ff_XLbad h (br_t rfl k)
    · unfold wpY_beginning; dsimp only
      exact ff_YLbad h (br_f ff_n1 k)
  have hp := ff_p9 hn
  rcases ff_piece v2 with h | ⟨kk, q, h1, h4, hq, rfl⟩
  · refine ⟨-2, fun post k => ?_, fun post k => ?_⟩
    · unfold wpX_beginning; dsimp only
      refine ff_XLok hn (br_f ff_n1 (ff_XpiN h ?_))
      exact br_t rfl k
    · unfold wpY_beginning; dsimp only
      refine ff_YLok hn (br_t rfl (ff_YleN h ?_))
      exact br_t rfl k
  have hpk := ff_p4 h4
  by_cases hk : kk ≤ n
  · refine ⟨nI (ff_pw fb n kk q (n - kk)), fun post k => ?_, fun post k => ?_⟩
    · unfold wpX_beginning; dsimp only
      refine ff_XLok hn (br_f ff_n1 (ff_Xpi h1 h4 hq ?_))
      refine br_f ff_n1 (ff_Xpl h1 h4 hq ?_)
      refine nm_r (pk_sub hk) (br_t (nI_pos' (by omega)) ?_)
      exact ff_Xpw hn (by omega) h1 h4 hq k
    · have hL : 3 ^ (n - kk) ≤ 19683 := ff_p9 (by omega)
      have hL0 : 0 < 3 ^ (n - kk) := ff_p3 _
      have hKL : 3 ^ kk * 3 ^ (n - kk) = 3 ^ n := by rw [← Nat.pow_add]; congr 1; omega
      have hqL : (q + 1) * 3 ^ (n - kk) ≤ 3 ^ n := by rw [← hKL]; exact Nat.mul_le_mul_right _ hq
      have hqL2 : (q + 1) * 3 ^ (n - kk) = q * 3 ^ (n - kk) + 3 ^ (n - kk) := Nat.succ_mul _ _
      have e2 : nI (3 ^ kk + q) - nI (3 ^ kk) = nI q := (pk_sub (Nat.le_add_right _ _)).trans (congrArg nI (Nat.add_sub_cancel_left _ _))
      rw [ff_begin fb hk hq] at k
      unfold wpY_beginning; dsimp only
      refine ff_YLok hn (br_t rfl (ff_Yle h1 h4 hq ?_))
      refine br_f (nI_ne0 (by omega) (by omega)) (br_t (nI_le hk (by omega)) ?_)
      rw [pk_sub hk]
      refine ff_Ypow (n := n - kk) (by omega) ?_
      refine ff_Ypow (n := kk) (by omega) ?_
      refine nm_r e2 (nm_r (pk_mul q _) ?_)
      generalize hLe : 3 ^ (n - kk) = L at *
      have e3 : (nI q + 1) * nI L = nI ((q + 1) * L) := by rw [nI_1, pk_mul]
      refine pk_loop (fun m i (s : Int32) => wY_beginning_58 post (nI n) (nI L) (nI q) fp fb nw lr m s (nI i)) (fun i s => s = nI (ff_sm (fun j => ff_i (ff_ok fb n (3 ^ n + (q * L + j)))) (i - q * L)) ∧ q * L ≤ i) ((q + 1) * L) (q * L) 0 (by omega) ⟨by rw [Nat.sub_self]; rfl, Nat.le_refl _⟩ (fun m s hs => ?_) (fun m i s hi hs hk => ?_)
      · have hs1 : s = _ := hs.1
        have e4 : (q + 1) * L - q * L = L := by omega
        rw [e4] at hs1
        rw [hs1]
        refine br_t ?_ k
        rw [e3]
        exact nI_le (Nat.le_refl _) (by omega)
      · have hs1 : s = nI (ff_sm (fun j => ff_i (ff_ok fb n (3 ^ n + (q * L + j)))) (i - q * L)) := hs.1
        have hs2 : q * L ≤ i := hs.2
        have e5 : i + 1 - q * L = (i - q * L) + 1 := by omega
        have e6 : q * L + (i - q * L) = i := by omega
        rw [hs1]
        refine br_f (by rw [e3]; exact nI_ge hi (by omega)) (ff_Ygd (by omega) (by omega) (ff_Bz (fun hb => nm_r (nI_1 i) (hk _ ⟨?_, by omega⟩)) (fun hb => nm_r (nI_1 _) (nm_r (nI_1 i) (hk _ ⟨?_, by omega⟩)))))
        · rw [e5]
          refine ff_g0 ?_
          show ff_i (ff_ok fb n (3 ^ n + (q * L + (i - q * L)))) = 0
          rw [e6, ff_i0 hb]
        · rw [e5]
          refine ff_g1 ?_
          show ff_i (ff_ok fb n (3 ^ n + (q * L + (i - q * L)))) = 1
          rw [e6, ff_i1 hb]
  · refine ⟨0, fun post k => ?_, fun post k => ?_⟩
    · unfold wpX_beginning; dsimp only
      refine ff_XLok hn (br_f ff_n1 (ff_Xpi h1 h4 hq ?_))
      refine br_f ff_n1 (ff_Xpl h1 h4 hq ?_)
      refine nm_e (br_f ?_ k)
      exact ff_nle.mpr (pk_sneg (by omega) (by omega))
    · unfold wpY_beginning; dsimp only
      refine ff_YLok hn (br_t rfl (ff_Yle h1 h4 hq ?_))
      exact br_f (nI_ne0 (by omega) (by omega)) (br_f (nI_ge (by omega) (by omega)) k)
theorem ff_Yen {post : Int32 → Prop} {n kk q : Nat} (hn : n ≤ 9) (h4 : kk ≤ 4) (hq : q < 3 ^ kk) (k : post (nI (ff_sm (fun c => if kk ≤ n ∧ c % 3 ^ kk = q then ff_i (ff_ok fb n (3 ^ n + c)) else 0) (3 ^ n)))) : ∃ m, wY_ending_36 post (nI n) (nI (3 ^ kk + q)) (nI kk) (nI (3 ^ n)) fp fb nw lr m 0 0 := by
  have hp := ff_p9 hn
  refine pk_loop (fun m i (s : Int32) => wY_ending_36 post (nI n) (nI (3 ^ kk + q)) (nI kk) (nI (3 ^ n)) fp fb nw lr m s (nI i)) (fun i s => s = nI (ff_sm (fun c => if kk ≤ n ∧ c % 3 ^ kk = q then ff_i (ff_ok fb n (3 ^ n + c)) else 0) i)) (3 ^ n) 0 0 (Nat.zero_le _) rfl (fun m s hs => ?_) (fun m i s hi hs hk => ?_)
  · rw [hs]
    exact br_t (nI_le (Nat.le_refl _) (by omega)) k
  · rw [hs]
    refine br_f (nI_ge hi (by omega)) (ff_Yst (by omega) (by omega) h4 hq ?_)
    refine ff_Bz (fun h => nm_r (nI_1 i) (hk _ (ff_g0 (if_neg (of_decide_eq_false h))))) (fun h => ff_Ygd (by omega) hi (ff_Bz (fun hb => nm_r (nI_1 i) (hk _ (ff_g0 ?_))) (fun hb => nm_r (nI_1 _) (nm_r (nI_1 i) (hk _ (ff_g1 ?_))))))
    · show (if kk ≤ n ∧ i % 3 ^ kk = q then _ else 0) = 0
      rw [if_pos (of_decide_eq_true h), ff_i0 hb]
    · show (if kk ≤ n ∧ i % 3 ^ kk = q then _ else 0) = 1
      rw [if_pos (of_decide_eq_true h), ff_i1 hb]
theorem ff_ending (v1 v2 : Int32) : ∃ r : Int32, (∀ post : Int32 → Prop, post r → wpX_ending post (fp, fb, wt, lt) v1 v2) ∧ (∀ post : Int32 → Prop, post r → wpY_ending post (fp, fb, nw, lr) v1 v2) := by
  rcases ff_ixN v1 9 (by decide) with h | ⟨n, hn, rfl⟩
  · refine ⟨-1, fun post k => ?_, fun post k => ?_⟩
    · unfold wpX_ending; dsimp only
      exact ff_XLbad h (br_t rfl k)
    · unfold wpY_ending; dsimp only
      exact ff_YLbad h (br_f ff_n1 k)
  have hp := ff_p9 hn
  rcases ff_piece v2 with h | ⟨kk, q, h1, h4, hq, rfl⟩
  · refine ⟨-2, fun post k => ?_, fun post k => ?_⟩
    · unfold wpX_ending; dsimp only
      refine ff_XLok hn (br_f ff_n1 (ff_XpiN h ?_))
      exact br_t rfl k
    · unfold wpY_ending; dsimp only
      refine ff_YLok hn (br_t rfl (ff_YleN h ?_))
      exact br_t rfl k
  have hpk := ff_p4 h4
  refine ⟨nI (ff_sm (fun c => if kk ≤ n ∧ c % 3 ^ kk = q then ff_i (ff_ok fb n (3 ^ n + c)) else 0) (3 ^ n)), fun post k => ?_, fun post k => ?_⟩
  · unfold wpX_ending; dsimp only
    refine ff_XLok hn (br_f ff_n1 (ff_Xpi h1 h4 hq ?_))
    refine br_f ff_n1 (ff_Xpl h1 h4 hq ?_)
    by_cases hk : kk ≤ n
    · rw [ff_end fb hk] at k
      refine br_t (nI_le hk (by omega)) ?_
      exact ff_Xpw (a := 0) hn (by omega) h1 h4 hq k
    · rw [ff_end0 fb (by omega)] at k
      exact br_f (nI_ge (by omega) (by omega)) k
  · unfold wpY_ending; dsimp only
    refine ff_YLok hn (br_t rfl (ff_Yle h1 h4 hq ?_))
    refine br_f (nI_ne0 (by omega) (by omega)) (ff_Ypow (by omega) ?_)
    exact ff_Yen hn h4 hq k
theorem ff_standing (v1 v2 : Int32) : ∃ r : Int32, (∀ post : Int32 → Prop, post r → wpX_standing post (fp, fb, wt, lt) v1 v2) ∧ (∀ post : Int32 → Prop, post r → wpY_standing post (fp, fb, nw, lr) v1 v2) := by
  rcases ff_ixN v1 9 (by decide) with h | ⟨n, hn, rfl⟩
  · refine ⟨-1, fun post k => ?_, fun post k => ?_⟩
    · unfold wpX_standing; dsimp only
      exact ff_XLbad h (br_t rfl k)
    · unfold wpY_standing; dsimp only
      exact ff_YLbad h (br_f ff_n1 k)
  have hp := ff_p9 hn
  rcases ff_piece v2 with h | ⟨kk, q, h1, h4, hq, rfl⟩
  · refine ⟨-2, fun post k => ?_, fun post k => ?_⟩
    · unfold wpX_standing; dsimp only
      refine ff_XLok hn (br_f ff_n1 (ff_XpiN h ?_))
      exact br_t rfl k
    · unfold wpY_standing; dsimp only
      refine ff_YLok hn (br_t rfl (ff_YleN h ?_))
      exact br_t rfl k
  have hpk := ff_p4 h4
  refine ⟨nI (ff_sm (fun c => if ff_ok fb n (3 ^ n + c) = true then ff_pc kk q n c else 0) (3 ^ n)), fun post k => ?_, fun post k => ?_⟩
  · unfold wpX_standing; dsimp only
    refine ff_XLok hn (br_f ff_n1 (ff_Xpi h1 h4 hq ?_))
    refine br_f ff_n1 (ff_Xpl h1 h4 hq ?_)
    by_cases hk : kk ≤ n
    · rw [ff_stand fb h1 hk] at k
      refine nm_r (pk_sub hk) ?_
      refine pk_loop (fun m i (s : Int32) => wX_standing_32 post (nI n) (nI (3 ^ kk + q)) (nI (n - kk)) fp fb wt lt m s (nI i)) (fun i s => s = nI (ff_sm (ff_pw fb n kk q) i)) (n - kk + 1) 0 0 (Nat.zero_le _) rfl (fun m s hs => ?_) (fun m i s hi hs hk => ?_)
      · rw [hs]
        exact br_t (nI_lt (Nat.lt_succ_self _) (by omega)) k
      · rw [hs]
        refine br_f (nI_nlt (by omega) (by omega)) (ff_Xpw hn (by omega) h1 h4 hq ?_)
        exact nm_r (nI_add _ _) (nm_r (nI_1 i) (hk _ (ff_ga rfl)))
    · rw [ff_stand0 fb (by omega)] at k
      refine nm_e ⟨1, br_t ?_ k⟩
      exact pk_sneg (by omega) (by omega)
  · unfold wpY_standing; dsimp only
    refine ff_YLok hn (br_t rfl (ff_Yle h1 h4 hq ?_))
    refine br_f (nI_ne0 (by omega) (by omega)) (ff_Ypow (by omega) ?_)
    refine pk_loop (fun m i (s : Int32) => wY_standing_36 post (nI n) (nI (3 ^ kk + q)) (nI kk) (nI (3 ^ n)) fp fb nw lr m s (nI i)) (fun i s => s = nI (ff_sm (fun c => if ff_ok fb n (3 ^ n + c) = true then ff_pc kk q n c else 0) i)) (3 ^ n) 0 0 (Nat.zero_le _) rfl (fun m s hs => ?_) (fun m i s hi hs hk => ?_)
    · rw [hs]
      exact br_t (nI_le (Nat.le_refl _) (by omega)) k
    · rw [hs]
      refine br_f (nI_ge hi (by omega)) (ff_Ygd (by omega) hi ?_)
      refine ff_Bz (fun hb => nm_r (nI_1 i) (hk _ (ff_g0 (if_neg (by rw [hb]; decide))))) (fun hb => ff_Ypc h4 hq (by omega) (by omega) ?_)
      exact nm_r (nI_add _ _) (nm_r (nI_1 i) (hk _ (ff_ga (if_pos hb))))
end
