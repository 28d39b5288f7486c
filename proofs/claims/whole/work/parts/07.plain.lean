section
variable {fp : Int32} {fb : Nat → Int32} {wt lt nw lr : Nat → Int64}
theorem ff_allowed (v1 v2 : Int32) : ∃ r : Int32, (∀ post : Int32 → Prop, post r → wpX_allowed post (fp, fb, wt, lt) v1 v2) ∧ (∀ post : Int32 → Prop, post r → wpY_allowed post (fp, fb, nw, lr) v1 v2) := by
  rcases ff_ixN v1 9 (by decide) with h | ⟨n, hn, rfl⟩
  · refine ⟨-1, fun post k => ?_, fun post k => ?_⟩
    · unfold wpX_allowed; dsimp only
      exact ff_XLbad h (br_t rfl k)
    · unfold wpY_allowed; dsimp only
      exact ff_YLbad h (br_f ff_n1 k)
  have hp := ff_p9 hn
  rcases ff_ixC v2 (3 ^ n) (by omega) with h | ⟨c, hc, rfl⟩
  · refine ⟨-2, fun post k => ?_, fun post k => ?_⟩
    · unfold wpX_allowed; dsimp only
      refine ff_XLok hn (br_f ff_n1 (ff_XCbad hn h ?_))
      exact br_t rfl k
    · unfold wpY_allowed; dsimp only
      refine ff_YLok hn (br_t rfl (ff_YCbad hn h ?_))
      exact br_f ff_n1 k
  · refine ⟨ff_B (ff_ok fb n (3 ^ n + c)), fun post k => ?_, fun post k => ?_⟩
    · unfold wpX_allowed; dsimp only
      refine ff_XLok hn (br_f ff_n1 (ff_XCok hn hc ?_))
      refine br_f ff_n1 (ff_Xal (by omega) hc ?_)
      exact ff_Bz (fun h => by rw [h] at k; exact k) (fun h => by rw [h] at k; exact k)
    · unfold wpY_allowed; dsimp only
      refine ff_YLok hn (br_t rfl (ff_YCok hn hc ?_))
      refine br_t rfl (ff_Ygd (by omega) hc ?_)
      exact ff_Bz (fun h => by rw [h] at k; exact k) (fun h => by rw [h] at k; exact k)
theorem ff_countWith (v1 v2 : Int32) : ∃ r : Int32, (∀ post : Int32 → Prop, post r → wpX_countWith post (fp, fb, wt, lt) v1 v2) ∧ (∀ post : Int32 → Prop, post r → wpY_countWith post (fp, fb, nw, lr) v1 v2) := by
  rcases ff_ixN v1 9 (by decide) with h | ⟨n, hn, rfl⟩
  · refine ⟨-1, fun post k => ?_, fun post k => ?_⟩
    · unfold wpX_countWith; dsimp only
      exact ff_XLbad h (br_t rfl k)
    · unfold wpY_countWith; dsimp only
      exact ff_YLbad h (br_f ff_n1 k)
  have hp := ff_p9 hn
  by_cases a : v2 < 0
  · refine ⟨-2, fun post k => ?_, fun post k => ?_⟩
    · unfold wpX_countWith; dsimp only
      refine ff_XLok hn (br_f ff_n1 ?_)
      exact br_t a k
    · unfold wpY_countWith; dsimp only
      refine ff_YLok hn (br_t rfl ?_)
      exact br_t a k
  by_cases b : v2 ≤ 9
  · refine ⟨nI (ff_sm (fun c => if nI (ff_zr n c 0) = v2 then ff_i (ff_ok fb n (3 ^ n + c)) else 0) (3 ^ n)), fun post k => ?_, fun post k => ?_⟩
    · unfold wpX_countWith; dsimp only
      refine ff_XLok hn (br_f ff_n1 (br_f a (br_t b (ff_Xpow (by omega) ?_))))
      refine pk_loop (fun m i (s : Int32) => wX_countWith_33 post (nI n) v2 (nI (3 ^ n)) fp fb wt lt m s (nI i)) (fun i s => s = nI (ff_sm (fun c => if nI (ff_zr n c 0) = v2 then ff_i (ff_ok fb n (3 ^ n + c)) else 0) i)) (3 ^ n) 0 0 (Nat.zero_le _) rfl (fun m s hs => ?_) (fun m i s hi hs hk => ?_)
      · rw [hs]
        exact br_t (nI_le (Nat.le_refl _) (by omega)) k
      · rw [hs]
        refine br_f (nI_ge hi (by omega)) (ff_Xzr (by omega) (by omega) ?_)
        refine br_c (fun h => ff_Xal (by omega) hi (ff_Bz (fun hb => nm_r (nI_1 i) (hk _ (ff_g0 ?_))) (fun hb => nm_r (nI_1 _) (nm_r (nI_1 i) (hk _ (ff_g1 ?_)))))) (fun h => nm_r (nI_1 i) (hk _ (ff_g0 (if_neg h))))
        · show (if nI (ff_zr n i 0) = v2 then _ else 0) = 0
          rw [if_pos h, ff_i0 hb]
        · show (if nI (ff_zr n i 0) = v2 then _ else 0) = 1
          rw [if_pos h, ff_i1 hb]
    · unfold wpY_countWith; dsimp only
      refine ff_YLok hn (br_t rfl (br_f a (br_t b (ff_Ypow (by omega) ?_))))
      refine pk_loop (fun m i (s : Int32) => wY_countWith_35 post (nI n) v2 (nI (3 ^ n)) fp fb nw lr m s (nI i)) (fun i s => s = nI (ff_sm (fun c => if nI (ff_zr n c 0) = v2 then ff_i (ff_ok fb n (3 ^ n + c)) else 0) i)) (3 ^ n) 0 0 (Nat.zero_le _) rfl (fun m s hs => ?_) (fun m i s hi hs hk => ?_)
      · rw [hs]
        exact br_t (nI_le (Nat.le_refl _) (by omega)) k
      · rw [hs]
        refine br_f (nI_ge hi (by omega)) (ff_Yzr (by omega) (by omega) ?_)
        refine br_c (fun h => ff_Ygd (by omega) hi (ff_Bz (fun hb => nm_r (nI_1 i) (hk _ (ff_g0 ?_))) (fun hb => nm_r (nI_1 _) (nm_r (nI_1 i) (hk _ (ff_g1 ?_)))))) (fun h => nm_r (nI_1 i) (hk _ (ff_g0 (if_neg h))))
        · show (if nI (ff_zr n i 0) = v2 then _ else 0) = 0
          rw [if_pos h, ff_i0 hb]
        · show (if nI (ff_zr n i 0) = v2 then _ else 0) = 1
          rw [if_pos h, ff_i1 hb]
  · refine ⟨-2, fun post k => ?_, fun post k => ?_⟩
    · unfold wpX_countWith; dsimp only
      refine ff_XLok hn (br_f ff_n1 ?_)
      exact br_f a (br_f b k)
    · unfold wpY_countWith; dsimp only
      refine ff_YLok hn (br_t rfl ?_)
      exact br_f a (br_f b k)
theorem ff_rank (v1 v2 : Int32) : ∃ r : Int32, (∀ post : Int32 → Prop, post r → wpX_rank post (fp, fb, wt, lt) v1 v2) ∧ (∀ post : Int32 → Prop, post r → wpY_rank post (fp, fb, nw, lr) v1 v2) := by
  rcases ff_ixN v1 9 (by decide) with h | ⟨n, hn, rfl⟩
  · refine ⟨-1, fun post k => ?_, fun post k => ?_⟩
    · unfold wpX_rank; dsimp only
      exact ff_XLbad h (br_t rfl k)
    · unfold wpY_rank; dsimp only
      exact ff_YLbad h (br_f ff_n1 k)
  have hp := ff_p9 hn
  rcases ff_ixC v2 (3 ^ n) (by omega) with h | ⟨c, hc, rfl⟩
  · refine ⟨-2, fun post k => ?_, fun post k => ?_⟩
    · unfold wpX_rank; dsimp only
      refine ff_XLok hn (br_f ff_n1 (ff_XCbad hn h ?_))
      exact br_t rfl k
    · unfold wpY_rank; dsimp only
      refine ff_YLok hn (br_t rfl (ff_YCbad hn h ?_))
      exact br_f ff_n1 k
  · refine ⟨nI (ff_sm (fun c => ff_i (ff_ok fb n (3 ^ n + c))) c), fun post k => ?_, fun post k => ?_⟩
    · unfold wpX_rank; dsimp only
      refine ff_XLok hn (br_f ff_n1 (ff_XCok hn hc ?_))
      refine br_f ff_n1 ?_
      refine pk_loop (fun m i (s : Int32) => wX_rank_25 post (nI n) (nI c) fp fb wt lt m s (nI i)) (fun i s => s = nI (ff_sm (fun c => ff_i (ff_ok fb n (3 ^ n + c))) i)) c 0 0 (Nat.zero_le _) rfl (fun m s hs => ?_) (fun m i s hi hs hk => ?_)
      · rw [hs]
        exact br_t (nI_le (Nat.le_refl _) (by omega)) k
      · rw [hs]
        exact br_f (nI_ge hi (by omega)) (ff_Xal (by omega) (by omega) (ff_Bz (fun hb => nm_r (nI_1 i) (hk _ (ff_g0 (ff_i0 hb)))) (fun hb => nm_r (nI_1 _) (nm_r (nI_1 i) (hk _ (ff_g1 (ff_i1 hb)))))))
    · unfold wpY_rank; dsimp only
      refine ff_YLok hn (br_t rfl (ff_YCok hn hc ?_))
      refine br_t rfl ?_
      refine pk_loop (fun m i (s : Int32) => wY_rank_27 post (nI n) (nI c) fp fb nw lr m s (nI i)) (fun i s => s = nI (ff_sm (fun c => ff_i (ff_ok fb n (3 ^ n + c))) i)) c 0 0 (Nat.zero_le _) rfl (fun m s hs => ?_) (fun m i s hi hs hk => ?_)
      · rw [hs]
        exact br_t (nI_le (Nat.le_refl _) (by omega)) k
      · rw [hs]
        exact br_f (nI_ge hi (by omega)) (ff_Ygd (by omega) (by omega) (ff_Bz (fun hb => nm_r (nI_1 i) (hk _ (ff_g0 (ff_i0 hb)))) (fun hb => nm_r (nI_1 _) (nm_r (nI_1 i) (hk _ (ff_g1 (ff_i1 hb)))))))
theorem ff_Xwd_l {post : Int32 → Prop} {n : Nat} {v : Int32} (hn : n ≤ 9) : ∀ m c a fu : Nat, c + m = 3 ^ n → m < fu → post (ff_wd fb n v m c a) → wX_word_20 post (nI n) v (nI (3 ^ n)) fp fb wt lt fu (nI a) (nI c) := by
  have hp := ff_p9 hn
  intro m
  induction m with
  | zero =>
    intro c a fu hi hf k
    obtain ⟨fu, rfl⟩ : ∃ a, fu = a + 1 := ⟨fu - 1, by omega⟩
    exact br_t (nI_le (by omega) (by omega)) k
  | succ m ih =>
    intro c a fu hi hf k
    obtain ⟨fu, rfl⟩ : ∃ a, fu = a + 1 := ⟨fu - 1, by omega⟩
    have ke : ff_wd fb n v (m + 1) c a = if ff_ok fb n (3 ^ n + c) = true then (if nI a = v then nI c else ff_wd fb n v m (c + 1) (a + 1)) else ff_wd fb n v m (c + 1) a := rfl
    rw [ke] at k
    refine br_f (nI_ge (by omega) (by omega)) (ff_Xal (by omega) (by omega) (ff_Bz (fun hb => nm_r (nI_1 c) (ih (c + 1) a fu (by omega) (by omega) ?_)) (fun hb => br_c (fun h => ?_) (fun h => nm_r (nI_1 a) (nm_r (nI_1 c) (ih (c + 1) (a + 1) fu (by omega) (by omega) ?_))))))
    · rw [if_neg (by rw [hb]; decide)] at k
      exact k
    · rw [if_pos hb, if_pos h] at k
      exact k
    · rw [if_pos hb, if_neg h] at k
      exact k
theorem ff_Ywd_l {post : Int32 → Prop} {n : Nat} {v : Int32} (hn : n ≤ 9) : ∀ m c a fu : Nat, c + m = 3 ^ n → m < fu → post (ff_wd fb n v m c a) → wY_word_22 post (nI n) v (nI (3 ^ n)) fp fb nw lr fu (nI a) (nI c) := by
  have hp := ff_p9 hn
  intro m
  induction m with
  | zero =>
    intro c a fu hi hf k
    obtain ⟨fu, rfl⟩ : ∃ a, fu = a + 1 := ⟨fu - 1, by omega⟩
    exact br_t (nI_le (by omega) (by omega)) k
  | succ m ih =>
    intro c a fu hi hf k
    obtain ⟨fu, rfl⟩ : ∃ a, fu = a + 1 := ⟨fu - 1, by omega⟩
    have ke : ff_wd fb n v (m + 1) c a = if ff_ok fb n (3 ^ n + c) = true then (if nI a = v then nI c else ff_wd fb n v m (c + 1) (a + 1)) else ff_wd fb n v m (c + 1) a := rfl
    rw [ke] at k
    refine br_f (nI_ge (by omega) (by omega)) (ff_Ygd (by omega) (by omega) (ff_Bz (fun hb => nm_r (nI_1 c) (ih (c + 1) a fu (by omega) (by omega) ?_)) (fun hb => br_c (fun h => ?_) (fun h => nm_r (nI_1 a) (nm_r (nI_1 c) (ih (c + 1) (a + 1) fu (by omega) (by omega) ?_))))))
    · rw [if_neg (by rw [hb]; decide)] at k
      exact k
    · rw [if_pos hb, if_pos h] at k
      exact k
    · rw [if_pos hb, if_neg h] at k
      exact k
theorem ff_word (v1 v2 : Int32) : ∃ r : Int32, (∀ post : Int32 → Prop, post r → wpX_word post (fp, fb, wt, lt) v1 v2) ∧ (∀ post : Int32 → Prop, post r → wpY_word post (fp, fb, nw, lr) v1 v2) := by
  rcases ff_ixN v1 9 (by decide) with h | ⟨n, hn, rfl⟩
  · refine ⟨-1, fun post k => ?_, fun post k => ?_⟩
    · unfold wpX_word; dsimp only
      exact ff_XLbad h (br_t rfl k)
    · unfold wpY_word; dsimp only
      exact ff_YLbad h (br_f ff_n1 k)
  · refine ⟨ff_wd fb n v2 (3 ^ n) 0 0, fun post k => ?_, fun post k => ?_⟩
    · unfold wpX_word; dsimp only
      refine ff_XLok hn (br_f ff_n1 (ff_Xpow (by omega) ?_))
      exact ⟨3 ^ n + 1, ff_Xwd_l hn (3 ^ n) 0 0 _ (by omega) (by omega) k⟩
    · unfold wpY_word; dsimp only
      refine ff_YLok hn (br_t rfl (ff_Ypow (by omega) ?_))
      exact ⟨3 ^ n + 1, ff_Ywd_l hn (3 ^ n) 0 0 _ (by omega) (by omega) k⟩
theorem ff_Xnx_l {post : Int32 → Prop} {n : Nat} {v : Int32} (hn : n ≤ 9) : ∀ m c fu : Nat, c + m = 3 ^ n → m < fu → post (ff_nx fb n v m c) → wX_next_17 post (nI n) v (nI (3 ^ n)) fp fb wt lt fu (nI c) := by
  have hp := ff_p9 hn
  intro m
  induction m with
  | zero =>
    intro c fu hi hf k
    obtain ⟨fu, rfl⟩ : ∃ a, fu = a + 1 := ⟨fu - 1, by omega⟩
    exact br_t (nI_le (by omega) (by omega)) k
  | succ m ih =>
    intro c fu hi hf k
    obtain ⟨fu, rfl⟩ : ∃ a, fu = a + 1 := ⟨fu - 1, by omega⟩
    have ke : ff_nx fb n v (m + 1) c = if v < nI c ∧ ff_ok fb n (3 ^ n + c) = true then nI c else ff_nx fb n v m (c + 1) := rfl
    rw [ke] at k
    refine br_f (nI_ge (by omega) (by omega)) (br_c (fun h => nm_r (nI_1 c) (ih (c + 1) fu (by omega) (by omega) ?_)) (fun h => ff_Xal (by omega) (by omega) (ff_Bz (fun hb => nm_r (nI_1 c) (ih (c + 1) fu (by omega) (by omega) ?_)) (fun hb => ?_))))
    · rw [if_neg (fun z => ff_nlt.mpr h z.1)] at k
      exact k
    · rw [if_neg (fun z => by rw [hb] at z; exact absurd z.2 (by decide))] at k
      exact k
    · rw [if_pos ⟨ff_nle.mp h, hb⟩] at k
      exact k
theorem ff_Ynx_l {post : Int32 → Prop} {n : Nat} {v : Int32} (hn : n ≤ 9) : ∀ m c fu : Nat, c + m = 3 ^ n → m < fu → post (ff_nx fb n v m c) → wY_next_19 post (nI n) v (nI (3 ^ n)) fp fb nw lr fu (nI c) := by
  have hp := ff_p9 hn
  intro m
  induction m with
  | zero =>
    intro c fu hi hf k
    obtain ⟨fu, rfl⟩ : ∃ a, fu = a + 1 := ⟨fu - 1, by omega⟩
    exact br_t (nI_le (by omega) (by omega)) k
  | succ m ih =>
    intro c fu hi hf k
    obtain ⟨fu, rfl⟩ : ∃ a, fu = a + 1 := ⟨fu - 1, by omega⟩
    have ke : ff_nx fb n v (m + 1) c = if v < nI c ∧ ff_ok fb n (3 ^ n + c) = true then nI c else ff_nx fb n v m (c + 1) := rfl
    rw [ke] at k
    refine br_f (nI_ge (by omega) (by omega)) (br_c (fun h => nm_r (nI_1 c) (ih (c + 1) fu (by omega) (by omega) ?_)) (fun h => ff_Ygd (by omega) (by omega) (ff_Bz (fun hb => nm_r (nI_1 c) (ih (c + 1) fu (by omega) (by omega) ?_)) (fun hb => ?_))))
    · rw [if_neg (fun z => ff_nlt.mpr h z.1)] at k
      exact k
    · rw [if_neg (fun z => by rw [hb] at z; exact absurd z.2 (by decide))] at k
      exact k
    · rw [if_pos ⟨ff_nle.mp h, hb⟩] at k
      exact k
theorem ff_next (v1 v2 : Int32) : ∃ r : Int32, (∀ post : Int32 → Prop, post r → wpX_next post (fp, fb, wt, lt) v1 v2) ∧ (∀ post : Int32 → Prop, post r → wpY_next post (fp, fb, nw, lr) v1 v2) := by
  rcases ff_ixN v1 9 (by decide) with h | ⟨n, hn, rfl⟩
  · refine ⟨-1, fun post k => ?_, fun post k => ?_⟩
    · unfold wpX_next; dsimp only
      exact ff_XLbad h (br_t rfl k)
    · unfold wpY_next; dsimp only
      exact ff_YLbad h (br_f ff_n1 k)
  · refine ⟨ff_nx fb n v2 (3 ^ n) 0, fun post k => ?_, fun post k => ?_⟩
    · unfold wpX_next; dsimp only
      refine ff_XLok hn (br_f ff_n1 (ff_Xpow (by omega) ?_))
      exact ⟨3 ^ n + 1, ff_Xnx_l hn (3 ^ n) 0 _ (by omega) (by omega) k⟩
    · unfold wpY_next; dsimp only
      refine ff_YLok hn (br_t rfl (ff_Ypow (by omega) ?_))
      exact ⟨3 ^ n + 1, ff_Ynx_l hn (3 ^ n) 0 _ (by omega) (by omega) k⟩
theorem ff_mirrored (v1 : Int32) : ∃ r : Int32, (∀ post : Int32 → Prop, post r → wpX_mirrored post (fp, fb, wt, lt) v1) ∧ (∀ post : Int32 → Prop, post r → wpY_mirrored post (fp, fb, nw, lr) v1) := by
  rcases ff_ixN v1 9 (by decide) with h | ⟨n, hn, rfl⟩
  · refine ⟨-1, fun post k => ?_, fun post k => ?_⟩
    · unfold wpX_mirrored; dsimp only
      exact ff_XLbad h (br_t rfl k)
    · unfold wpY_mirrored; dsimp only
      exact ff_YLbad h (br_f ff_n1 k)
  have hp := ff_p9 hn
  · refine ⟨nI (ff_sm (fun c => if nI (ff_bw n c 0) = nI c then ff_i (ff_ok fb n (3 ^ n + c)) else 0) (3 ^ n)), fun post k => ?_, fun post k => ?_⟩
    · unfold wpX_mirrored; dsimp only
      refine ff_XLok hn (br_f ff_n1 (ff_Xpow (by omega) ?_))
      refine pk_loop (fun m i (s : Int32) => wX_mirrored_19 post (nI n) (nI (3 ^ n)) fp fb wt lt m s (nI i)) (fun i s => s = nI (ff_sm (fun c => if nI (ff_bw n c 0) = nI c then ff_i (ff_ok fb n (3 ^ n + c)) else 0) i)) (3 ^ n) 0 0 (Nat.zero_le _) rfl (fun m s hs => ?_) (fun m i s hi hs hk => ?_)
      · rw [hs]
        exact br_t (nI_le (Nat.le_refl _) (by omega)) k
      · rw [hs]
        refine br_f (nI_ge hi (by omega)) (ff_Xbw (by omega) (by omega) ?_)
        refine br_c (fun h => ff_Xal (by omega) hi (ff_Bz (fun hb => nm_r (nI_1 i) (hk _ (ff_g0 ?_))) (fun hb => nm_r (nI_1 _) (nm_r (nI_1 i) (hk _ (ff_g1 ?_)))))) (fun h => nm_r (nI_1 i) (hk _ (ff_g0 (if_neg h))))
        · show (if nI (ff_bw n i 0) = nI i then _ else 0) = 0
          rw [if_pos h, ff_i0 hb]
        · show (if nI (ff_bw n i 0) = nI i then _ else 0) = 1
          rw [if_pos h, ff_i1 hb]
    · unfold wpY_mirrored; dsimp only
      refine ff_YLok hn (br_t rfl (ff_Ypow (by omega) ?_))
      refine pk_loop (fun m i (s : Int32) => wY_mirrored_21 post (nI n) (nI (3 ^ n)) fp fb nw lr m s (nI i)) (fun i s => s = nI (ff_sm (fun c => if nI (ff_bw n c 0) = nI c then ff_i (ff_ok fb n (3 ^ n + c)) else 0) i)) (3 ^ n) 0 0 (Nat.zero_le _) rfl (fun m s hs => ?_) (fun m i s hi hs hk => ?_)
      · rw [hs]
        exact br_t (nI_le (Nat.le_refl _) (by omega)) k
      · rw [hs]
        refine br_f (nI_ge hi (by omega)) (ff_Ybw (by omega) (by omega) ?_)
        refine br_c (fun h => ff_Ygd (by omega) hi (ff_Bz (fun hb => nm_r (nI_1 i) (hk _ (ff_g0 ?_))) (fun hb => nm_r (nI_1 _) (nm_r (nI_1 i) (hk _ (ff_g1 ?_)))))) (fun h => nm_r (nI_1 i) (hk _ (ff_g0 (if_neg h))))
        · show (if nI (ff_bw n i 0) = nI i then _ else 0) = 0
          rw [if_pos h, ff_i0 hb]
        · show (if nI (ff_bw n i 0) = nI i then _ else 0) = 1
          rw [if_pos h, ff_i1 hb]
theorem ff_choices (v1 v2 : Int32) : ∃ r : Int32, (∀ post : Int32 → Prop, post r → wpX_choices post (fp, fb, wt, lt) v1 v2) ∧ (∀ post : Int32 → Prop, post r → wpY_choices post (fp, fb, nw, lr) v1 v2) := by
  rcases ff_ixN v1 9 (by decide) with h | ⟨n, hn, rfl⟩
  · refine ⟨-1, fun post k => ?_, fun post k => ?_⟩
    · unfold wpX_choices; dsimp only
      exact ff_XLbad h (br_t rfl k)
    · unfold wpY_choices; dsimp only
      exact ff_YLbad h (br_f ff_n1 k)
  have hp := ff_p9 hn
  rcases ff_ixC v2 (3 ^ n) (by omega) with h | ⟨c, hc, rfl⟩
  · refine ⟨-2, fun post k => ?_, fun post k => ?_⟩
    · unfold wpX_choices; dsimp only
      refine ff_XLok hn (br_f ff_n1 (ff_XCbad hn h ?_))
      exact br_t rfl k
    · unfold wpY_choices; dsimp only
      refine ff_YLok hn (br_t rfl (ff_YCbad hn h ?_))
      exact br_f ff_n1 k
  · refine ⟨nI (ff_sm (fun d => ff_i (ff_ok fb n (3 ^ n + c) && ff_ok fb (n + 1) (3 ^ (n + 1) + (3 * c + d)))) 3), fun post k => ?_, fun post k => ?_⟩
    · have ew : ∀ d, 3 ^ (n + 1) + (3 * c + d) = 3 * (3 ^ n + c) + d := fun d => by rw [ff_pS]; omega
      unfold wpX_choices; dsimp only
      refine ff_XLok hn (br_f ff_n1 (ff_XCok hn hc ?_))
      refine br_f ff_n1 (ff_Xal (by omega) hc ?_)
      refine ff_Bz (fun h => ?_) (fun h => ff_Xpow (by omega) (nm_r (nI_add _ _) ?_))
      · have z : ff_sm (fun d => ff_i (ff_ok fb n (3 ^ n + c) && ff_ok fb (n + 1) (3 ^ (n + 1) + (3 * c + d)))) 3 = 0 := ff_sm_z fun d _ => by
          rw [h, Bool.false_and]; rfl
        rw [z] at k
        exact k
      · refine pk_loop (fun m i (s : Int32) => wX_choices_44 post (nI (3 ^ n + c)) fp fb wt lt m s (nI i)) (fun i s => s = nI (ff_sm (fun d => ff_i (ff_ok fb n (3 ^ n + c) && ff_ok fb (n + 1) (3 ^ (n + 1) + (3 * c + d)))) i)) 3 0 0 (Nat.zero_le _) rfl (fun m s hs => ?_) (fun m i s hi hs hk => ?_)
        · rw [hs]
          exact br_t (nI_le (a := 3) (b := 3) (by omega) (by omega)) k
        · rw [hs]
          have e : nI (3 ^ n + c) * 3 + nI i = nI (3 * (3 ^ n + c) + i) := by
            rw [show nI (3 ^ n + c) * 3 = nI ((3 ^ n + c) * 3) from pk_mul _ 3, nI_add]
            exact congrArg nI (by omega)
          refine br_f (nI_ge (a := i) (b := 3) hi (by omega)) ?_
          rw [e]
          refine ff_Xef (by omega) (ff_Bz (fun hb => nm_r (nI_1 _) (nm_r (nI_1 i) (hk _ (ff_g1 (ff_i1 ?_))))) (fun hb => nm_r (nI_1 i) (hk _ (ff_g0 (ff_i0 ?_)))))
          · rw [ew, ff_ok_s _ _ _ _ hi, h, hb]; rfl
          · rw [ew, ff_ok_s _ _ _ _ hi, h, hb]; rfl
    · have hp10 : 3 ^ (n + 1) ≤ 59049 := ff_p10 (by omega)
      have hpS := ff_pS n
      unfold wpY_choices; dsimp only
      refine ff_YLok hn (br_t rfl (ff_YCok hn hc ?_))
      refine br_t rfl ?_
      refine pk_loop (fun m i (s : Int32) => wY_choices_27 post (nI n) (nI c) fp fb nw lr m s (nI i)) (fun i s => s = nI (ff_sm (fun d => ff_i (ff_ok fb n (3 ^ n + c) && ff_ok fb (n + 1) (3 ^ (n + 1) + (3 * c + d)))) i)) 3 0 0 (Nat.zero_le _) rfl (fun m s hs => ?_) (fun m i s hi hs hk => ?_)
      · rw [hs]
        exact br_t (nI_le (a := 3) (b := 3) (by omega) (by omega)) k
      · rw [hs]
        have e : 3 * nI c + nI i = nI (3 * c + i) := by
          rw [show 3 * nI c = nI (3 * c) from pk_mul 3 c, nI_add]
        refine br_f (nI_ge (a := i) (b := 3) hi (by omega)) (ff_Ygd (by omega) hc ?_)
        refine ff_Bz (fun hb => nm_r (nI_1 i) (hk _ (ff_g0 (ff_i0 ?_)))) (fun hb => ?_)
        · rw [hb, Bool.false_and]
        · rw [e, nI_1 n]
          refine ff_Ygd (by omega) (by omega) (ff_Bz (fun hb2 => nm_r (nI_1 i) (hk _ (ff_g0 (ff_i0 ?_)))) (fun hb2 => nm_r (nI_1 _) (nm_r (nI_1 i) (hk _ (ff_g1 (ff_i1 ?_))))))
          · rw [hb, hb2]; rfl
          · rw [hb, hb2]; rfl
end
