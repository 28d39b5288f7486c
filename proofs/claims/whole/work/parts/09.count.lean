theorem ff_tl {s : Nat → Int64} {E : Nat → Nat} {i : Nat} {x : Int64} (hs : ∀ t, t < i → s t = lN (E t)) (hx : x = lN (E i)) : ∀ t, t < i + 1 → vp_updL s i x t = lN (E t) := by
  intro t ht
  by_cases h : t = i
  · subst h
    rw [pk_uLs]
    exact hx
  · rw [pk_uLn h]
    exact hs t (by omega)
theorem ff_up {s : Nat → Int64} {E : Nat → Nat} {T j d : Nat} (hs : ∀ t, t < T → s t = lN (E t)) : ∀ t, t < T → vp_updL s j (s j + lN d) t = lN (E t + (if j = t then d else 0)) := by
  intro t ht
  by_cases h : t = j
  · subst h
    rw [pk_uLs, hs t ht, lN_add, if_pos rfl]
  · rw [pk_uLn h, hs t ht, if_neg (fun z => h z.symm)]
    rfl
theorem ff_lz {d : Nat} (h : d < 2 ^ 63) : lN d ≤ 0 ↔ d = 0 := by
  have := pk_lLE (a := d) (b := 0) h (by decide)
  rw [show (0 : Int64) = lN 0 from rfl, this]
  omega
theorem ff_l1 {G : Nat → Nat} {c j t' d : Nat} (h : G c = if j = t' then 1 else 0) : ff_sm G c * d + (if j = t' then d else 0) = ff_sm G (c + 1) * d := by
  show _ = (ff_sm G c + G c) * d
  rw [h, Nat.add_mul]
  by_cases e : j = t'
  · rw [if_pos e, if_pos e, Nat.one_mul]
  · rw [if_neg e, if_neg e, Nat.zero_mul]
theorem ff_l0 {G : Nat → Nat} {c d : Nat} (h : G c * d = 0) : ff_sm G c * d = ff_sm G (c + 1) * d := by
  show _ = (ff_sm G c + G c) * d
  rw [Nat.add_mul, h, Nat.add_zero]
section
variable {fp : Int32} {fb : Nat → Int32} {wt lt nw lr : Nat → Int64}
theorem ff_Xl3 {post : Int32 → Prop} {w : Nat} (hw : w < 2 ^ 31) (k : post (nI (ff_l3 w))) : wpX_lastThreeLetters post (nI w) := by
  have e : 27 + (nI w - nI w / 27 * 27) = nI (27 + w % 27) := by
    rw [show nI w - nI w / 27 * 27 = nI (w % 27) from pk_rem (d := 27) hw (by decide) (by decide)]; exact nI_add 27 _
  unfold ff_l3 at k
  unfold wpX_lastThreeLetters
  refine pk_le 54 w (fun h => ⟨by decide, ?_⟩) (fun h => ?_)
  · rw [if_neg (by omega)] at k
    rw [e]
    exact k
  · rw [if_pos (by omega)] at k
    exact k
theorem ff_Xin {post : SX → Prop} {J : Int32 → (Nat → Int32) → (Nat → Int64) → (Nat → Int64) → Prop} {D S : Nat → Nat} {t : Nat} (ht : t < 54) (hD : wt t = lN (D t)) (hb : D t < 2 ^ 63) (s0 : Nat → Int64) (h0 : ∀ t', t' < 54 → s0 t' = lN (S t'))
    (kJ : ∀ s : Nat → Int64, (∀ t', t' < 54 → s t' = lN (S t' + ff_h fb t' t * D t)) → J (nI (t + 1)) fb wt s) : ∃ m, wX_lengthenByOne_31 post J (nI t) fp m 0 fb wt s0 := by
  refine pk_loop (fun m c (s : Nat → Int64) => wX_lengthenByOne_31 post J (nI t) fp m (nI c) fb wt s) (fun c s => ∀ t', t' < 54 → s t' = lN (S t' + ff_sm (fun c => if ff_l3 (3 * t + c) = t' then ff_i (!ff_ef fb (3 * t + c)) else 0) c * D t)) 3 0 s0 (Nat.zero_le _) (fun t' ht' => ?_) (fun m s hs => ?_) (fun m c s hc hs hk => ?_)
  · rw [h0 t' ht']
    show lN (S t') = lN (S t' + 0 * D t)
    rw [Nat.zero_mul, Nat.add_zero]
  · exact br_t (nI_le (a := 3) (b := 3) (by omega) (by omega)) (nm_r (nI_1 t) (kJ s hs))
  · have e : nI t * 3 + nI c = nI (3 * t + c) := by
      rw [show nI t * 3 = nI (t * 3) from pk_mul t 3, nI_add, Nat.mul_comm t 3]
    have ec : (nI t).toNatClampNeg = t := nI_clamp (by omega)
    have same : (∀ t', (if ff_l3 (3 * t + c) = t' then ff_i (!ff_ef fb (3 * t + c)) else 0) * D t = 0) → ∀ t', t' < 54 → s t' = lN (S t' + ff_sm (fun c => if ff_l3 (3 * t + c) = t' then ff_i (!ff_ef fb (3 * t + c)) else 0) (c + 1) * D t) := by
      intro z t' ht'
      rw [hs t' ht', ff_l0 (G := fun c => if ff_l3 (3 * t + c) = t' then ff_i (!ff_ef fb (3 * t + c)) else 0) (c := c) (z t')]
    refine br_f (nI_ge (a := c) (b := 3) hc (by omega)) (nm_r e ⟨vp_in_nI ht (by decide), ?_⟩)
    rw [ec, hD]
    by_cases hz : D t = 0
    · refine br_t ((ff_lz hb).mpr hz) (nm_r (nI_1 c) (hk _ (same fun t' => ?_)))
      rw [hz, Nat.mul_zero]
    · refine br_f (fun z => hz ((ff_lz hb).mp z)) (ff_Xef (by omega) (ff_Bz (fun hf => ff_Xl3 (by omega) ?_) (fun hf => nm_r (nI_1 c) (hk _ (same fun t' => ?_)))))
      · have hj : ff_l3 (3 * t + c) < 54 := ff_l3_lt _
        have ej : (nI (ff_l3 (3 * t + c))).toNatClampNeg = ff_l3 (3 * t + c) := nI_clamp (by omega)
        refine ⟨vp_in_nI hj (by decide), vp_in_nI ht (by decide), vp_in_nI hj (by decide), ?_⟩
        rw [ej]
        refine nm_e (nm_r (nI_1 c) (hk _ (fun t' ht' => ?_)))
        rw [ff_up hs t' ht', Nat.add_assoc, ff_l1 (G := fun c => if ff_l3 (3 * t + c) = t' then ff_i (!ff_ef fb (3 * t + c)) else 0) (c := c)]
        show (if ff_l3 (3 * t + c) = t' then ff_i (!ff_ef fb (3 * t + c)) else 0) = _
        rw [hf]
        rfl
      · rw [hf]
        show (if ff_l3 (3 * t + c) = t' then 0 else 0) * D t = 0
        split <;> exact Nat.zero_mul _
theorem ff_Xlen {post : SX → Prop} {D : Nat → Nat} (hD : ∀ t, t < 54 → wt t = lN (D t)) (hb : ∀ t, t < 54 → D t < 2 ^ 63) (h0 : D 0 = 0) (k : ∀ wt' lt' : Nat → Int64, (∀ t, t < 54 → wt' t = lN (ff_sm (fun t1 => ff_h fb t t1 * D t1) 54)) → post (fp, fb, wt', lt')) : wpX_lengthenByOne post (fp, fb, wt, lt) := by
  unfold wpX_lengthenByOne
  dsimp only
  refine pk_loop (fun m i (s : Nat → Int64) => wX_lengthenByOne_2 post fp m (nI i) fb wt s) (fun i s => ∀ t, t < i → s t = lN 0) 54 0 lt (Nat.zero_le _) (fun t ht => absurd ht (by omega)) (fun m s hs => ?_) (fun m i s hi hs hk => ?_)
  · refine br_t (nI_le (a := 54) (b := 54) (by omega) (by omega)) ?_
    refine pk_loop (fun m i (s : Nat → Int64) => wX_lengthenByOne_23 post fp m (nI i) fb wt s) (fun i s => ∀ t', t' < 54 → s t' = lN (ff_sm (fun t => ff_h fb t' t * D t) i)) 54 1 s (by omega) (fun t' ht' => ?_) (fun m s hs => ?_) (fun m i s hi hs hk => ?_)
    · rw [hs t' ht']
      show lN 0 = lN (0 + ff_h fb t' 0 * D 0)
      rw [h0, Nat.mul_zero]
    · refine br_t (nI_le (a := 54) (b := 54) (by omega) (by omega)) ?_
      refine pk_loop (fun m i (w : Nat → Int64) => wX_lengthenByOne_97 post fp m (nI i) fb w s) (fun i w => ∀ t, t < i → w t = lN (ff_sm (fun t1 => ff_h fb t t1 * D t1) 54)) 54 0 wt (Nat.zero_le _) (fun t ht => absurd ht (by omega)) (fun m w hw => ?_) (fun m i w hi hw hk => ?_)
      · exact br_t (nI_le (a := 54) (b := 54) (by omega) (by omega)) (k w s hw)
      · refine br_f (nI_ge (a := i) (b := 54) hi (by omega)) ⟨vp_in_nI hi (by decide), vp_in_nI hi (by decide), ?_⟩
        rw [nI_clamp (show i < 2 ^ 31 by omega)]
        exact nm_e (nm_r (nI_1 i) (hk _ (ff_tl hw (hs i hi))))
    · refine br_f (nI_ge (a := i) (b := 54) hi (by omega)) ?_
      exact ff_Xin hi (hD i hi) (hb i hi) s hs (fun s' hs' => hk s' hs')
  · refine br_f (nI_ge (a := i) (b := 54) hi (by omega)) ⟨vp_in_nI hi (by decide), ?_⟩
    rw [nI_clamp (show i < 2 ^ 31 by omega)]
    exact nm_e (nm_r (nI_1 i) (hk _ (ff_tl (E := fun _ => 0) hs rfl)))
theorem ff_Xaw {post : Int64 → SX → Prop} {n : Nat} (hn : n ≤ 30) (k : ∀ wt' lt' : Nat → Int64, post (lN (ff_tot fb n)) (fp, fb, wt', lt')) : wpX_allowedWords post (fp, fb, wt, lt) (nI n) := by
  unfold wpX_allowedWords
  dsimp only
  refine pk_loop (fun m i (s : Nat → Int64) => wX_allowedWords_2 post (nI n) fp m (nI i) fb s lt) (fun i s => ∀ t, t < i → s t = lN 0) 54 0 wt (Nat.zero_le _) (fun t ht => absurd ht (by omega)) (fun m s hs => ?_) (fun m i s hi hs hk => ?_)
  · refine br_t (nI_le (a := 54) (b := 54) (by omega) (by omega)) (nm_e ?_)
    refine pk_loop (fun m i (s : (Nat → Int64) × (Nat → Int64)) => wX_allowedWords_30 post (nI n) m (nI i) fp fb s.1 s.2) (fun i s => ∀ t, t < 54 → s.1 t = lN (ff_cn fb i t)) n 0 (vp_updL s 1 1, lt) (Nat.zero_le _) (fun t ht => ?_) (fun m s hs => ?_) (fun m i s hi hs hk => ?_)
    · rw [ff_cn_0]
      by_cases h : t = 1
      · subst h
        rw [if_pos rfl]
        show vp_updL s 1 1 1 = 1
        exact pk_uLs
      · rw [if_neg h]
        exact (pk_uLn h).trans (hs t ht)
    · refine br_t (nI_le (Nat.le_refl n) (by omega)) ?_
      refine pk_loop (fun m i (x : Int64) => wX_allowedWords_50 post fp fb s.1 s.2 m x (nI i)) (fun i x => x = lN (ff_sm (ff_cn fb n) i)) 54 0 0 (Nat.zero_le _) rfl (fun m x hx => ?_) (fun m i x hi hx hk => ?_)
      · rw [hx, ff_tot_cn]
        exact br_t (nI_le (a := 54) (b := 54) (by omega) (by omega)) (k _ _)
      · rw [hx]
        refine br_f (nI_ge (a := i) (b := 54) hi (by omega)) ⟨vp_in_nI hi (by decide), ?_⟩
        rw [nI_clamp (show i < 2 ^ 31 by omega), hs i hi]
        exact nm_r (lN_add _ _) (nm_r (nI_1 i) (hk _ rfl))
    · refine br_f (nI_ge hi (by omega)) (ff_Xlen (D := ff_cn fb i) hs (fun t _ => Nat.lt_of_le_of_lt (ff_cn_le fb i t) (ff_pow_lt (by omega))) (ff_cn_t0 fb i) (fun wt' lt' h => ?_))
      refine nm_r (nI_1 i) (hk (wt', lt') (fun t ht => ?_))
      rw [ff_cn_s]
      exact h t ht
  · refine br_f (nI_ge (a := i) (b := 54) hi (by omega)) ⟨vp_in_nI hi (by decide), ?_⟩
    rw [nI_clamp (show i < 2 ^ 31 by omega)]
    exact nm_e (nm_r (nI_1 i) (hk _ (ff_tl (E := fun _ => 0) hs rfl)))
theorem ff_Yin {post : SY → Prop} {J : Int32 → (Nat → Int32) → (Nat → Int64) → (Nat → Int64) → Prop} {D S : Nat → Nat} {t : Nat} (ht : t < 27) (hD : nw t = lN (D t)) (s0 : Nat → Int64) (h0 : ∀ t', t' < 27 → s0 t' = lN (S t'))
    (kJ : ∀ s : Nat → Int64, (∀ t', t' < 27 → s t' = lN (S t' + ff_hy fb t' t * D t)) → J (nI (t + 1)) fb nw s) : ∃ m, wY_grow_31 post J (nI t) fp m 0 fb nw s0 := by
  refine pk_loop (fun m c (s : Nat → Int64) => wY_grow_31 post J (nI t) fp m (nI c) fb nw s) (fun c s => ∀ t', t' < 27 → s t' = lN (S t' + ff_sm (fun c => if (3 * t + c) % 27 = t' then ff_i (ff_ok fb 4 (81 + (3 * t + c))) else 0) c * D t)) 3 0 s0 (Nat.zero_le _) (fun t' ht' => ?_) (fun m s hs => ?_) (fun m c s hc hs hk => ?_)
  · rw [h0 t' ht']
    show lN (S t') = lN (S t' + 0 * D t)
    rw [Nat.zero_mul, Nat.add_zero]
  · exact br_t (nI_le (a := 3) (b := 3) (by omega) (by omega)) (nm_r (nI_1 t) (kJ s hs))
  · have e : 3 * nI t + nI c = nI (3 * t + c) := by
      rw [show 3 * nI t = nI (3 * t) from pk_mul 3 t, nI_add]
    have er : nI (3 * t + c) - nI (3 * t + c) / 27 * 27 = nI ((3 * t + c) % 27) := pk_rem (d := 27) (by omega) (by decide) (by decide)
    have ec : (nI t).toNatClampNeg = t := nI_clamp (by omega)
    have hj : (3 * t + c) % 27 < 27 := Nat.mod_lt _ (by decide)
    have ej : (nI ((3 * t + c) % 27)).toNatClampNeg = (3 * t + c) % 27 := nI_clamp (by omega)
    refine br_f (nI_ge (a := c) (b := 3) hc (by omega)) ?_
    rw [e, er]
    refine ff_Ygd (n := 4) (by omega) (show 3 * t + c < 81 by omega) (ff_Bz (fun hf => nm_r (nI_1 c) (hk _ (fun t' ht' => ?_))) (fun hf => ⟨by decide, vp_in_nI hj (by decide), vp_in_nI ht (by decide), vp_in_nI hj (by decide), ?_⟩))
    · have hf : ff_ok fb 4 (81 + (3 * t + c)) = false := hf
      rw [hs t' ht', ff_l0 (G := fun c => if (3 * t + c) % 27 = t' then ff_i (ff_ok fb 4 (81 + (3 * t + c))) else 0) (c := c)]
      show (if (3 * t + c) % 27 = t' then ff_i (ff_ok fb 4 (81 + (3 * t + c))) else 0) * D t = 0
      rw [hf]
      show (if (3 * t + c) % 27 = t' then 0 else 0) * D t = 0
      split <;> exact Nat.zero_mul _
    · have hf : ff_ok fb 4 (81 + (3 * t + c)) = true := hf
      rw [ej, ec, hD]
      refine nm_e (nm_r (nI_1 c) (hk _ (fun t' ht' => ?_)))
      rw [ff_up hs t' ht', Nat.add_assoc, ff_l1 (G := fun c => if (3 * t + c) % 27 = t' then ff_i (ff_ok fb 4 (81 + (3 * t + c))) else 0) (c := c)]
      show (if (3 * t + c) % 27 = t' then ff_i (ff_ok fb 4 (81 + (3 * t + c))) else 0) = _
      rw [hf]
      rfl
theorem ff_Ygrow {post : SY → Prop} {D : Nat → Nat} (hD : ∀ t, t < 27 → nw t = lN (D t)) (k : ∀ nw' lr' : Nat → Int64, (∀ t, t < 27 → nw' t = lN (ff_sm (fun t1 => ff_hy fb t t1 * D t1) 27)) → post (fp, fb, nw', lr')) : wpY_grow post (fp, fb, nw, lr) := by
  unfold wpY_grow
  dsimp only
  refine pk_loop (fun m i (s : Nat → Int64) => wY_grow_2 post fp m (nI i) fb nw s) (fun i s => ∀ t, t < i → s t = lN 0) 27 0 lr (Nat.zero_le _) (fun t ht => absurd ht (by omega)) (fun m s hs => ?_) (fun m i s hi hs hk => ?_)
  · refine br_t (nI_le (a := 27) (b := 27) (by omega) (by omega)) ?_
    refine pk_loop (fun m i (s : Nat → Int64) => wY_grow_23 post fp m (nI i) fb nw s) (fun i s => ∀ t', t' < 27 → s t' = lN (ff_sm (fun t => ff_hy fb t' t * D t) i)) 27 0 s (by omega) (fun t' ht' => hs t' ht') (fun m s hs => ?_) (fun m i s hi hs hk => ?_)
    · refine br_t (nI_le (a := 27) (b := 27) (by omega) (by omega)) ?_
      refine pk_loop (fun m i (w : Nat → Int64) => wY_grow_85 post fp m (nI i) fb w s) (fun i w => ∀ t, t < i → w t = lN (ff_sm (fun t1 => ff_hy fb t t1 * D t1) 27)) 27 0 nw (Nat.zero_le _) (fun t ht => absurd ht (by omega)) (fun m w hw => ?_) (fun m i w hi hw hk => ?_)
      · exact br_t (nI_le (a := 27) (b := 27) (by omega) (by omega)) (k w s hw)
      · refine br_f (nI_ge (a := i) (b := 27) hi (by omega)) ⟨vp_in_nI hi (by decide), vp_in_nI hi (by decide), ?_⟩
        rw [nI_clamp (show i < 2 ^ 31 by omega)]
        exact nm_e (nm_r (nI_1 i) (hk _ (ff_tl hw (hs i hi))))
    · refine br_f (nI_ge (a := i) (b := 27) hi (by omega)) ?_
      exact ff_Yin hi (hD i hi) s hs (fun s' hs' => hk s' hs')
  · refine br_f (nI_ge (a := i) (b := 27) hi (by omega)) ⟨vp_in_nI hi (by decide), ?_⟩
    rw [nI_clamp (show i < 2 ^ 31 by omega)]
    exact nm_e (nm_r (nI_1 i) (hk _ (ff_tl (E := fun _ => 0) hs rfl)))
theorem ff_Yc {post : Int64 → SY → Prop} {n : Nat} (h4 : 4 ≤ n) (hn : n ≤ 30) (k : ∀ nw' lr' : Nat → Int64, post (lN (ff_tot fb n)) (fp, fb, nw', lr')) : ∃ m, wY_count_28 post (nI n) fp m 0 fb nw lr := by
  refine pk_loop (fun m i (s : Nat → Int64) => wY_count_28 post (nI n) fp m (nI i) fb s lr) (fun i s => ∀ t, t < i → s t = lN (ff_i (ff_ok fb 3 (27 + t)))) 27 0 nw (Nat.zero_le _) (fun t ht => absurd ht (by omega)) (fun m s hs => ?_) (fun m i s hi hs hk => ?_)
  · refine br_t (nI_le (a := 27) (b := 27) (by omega) (by omega)) ?_
    refine pk_loop (fun m i (s : (Nat → Int64) × (Nat → Int64)) => wY_count_62 post (nI n) m (nI i) fp fb s.1 s.2) (fun i s => 3 ≤ i ∧ ∀ t, t < 27 → s.1 t = lN (ff_cn fb i (27 + t))) n 3 (s, lr) (by omega) ⟨Nat.le_refl 3, fun t ht => ?_⟩ (fun m s hs => ?_) (fun m i s hi hs hk => ?_)
    · rw [ff_cn_3 fb ht]
      exact hs t ht
    · refine br_t (nI_le (Nat.le_refl n) (by omega)) ?_
      refine pk_loop (fun m i (x : Int64) => wY_count_82 post fp fb s.1 s.2 m x (nI i)) (fun i x => x = lN (ff_sm (fun t => ff_cn fb n (27 + t)) i)) 27 0 0 (Nat.zero_le _) rfl (fun m x hx => ?_) (fun m i x hi hx hk => ?_)
      · rw [hx, ff_tot_y fb (by omega)]
        exact br_t (nI_le (a := 27) (b := 27) (by omega) (by omega)) (k _ _)
      · rw [hx]
        refine br_f (nI_ge (a := i) (b := 27) hi (by omega)) ⟨vp_in_nI hi (by decide), ?_⟩
        rw [nI_clamp (show i < 2 ^ 31 by omega), hs.2 i hi]
        exact nm_r (lN_add _ _) (nm_r (nI_1 i) (hk _ rfl))
    · have h3 : 3 ≤ i := hs.1
      refine br_f (nI_ge hi (by omega)) (ff_Ygrow (D := fun t => ff_cn fb i (27 + t)) hs.2 (fun nw' lr' h => ?_))
      refine nm_r (nI_1 i) (hk (nw', lr') ⟨by omega, fun t ht => ?_⟩)
      rw [ff_cn_y fb h3 ht]
      exact h t ht
  · refine br_f (nI_ge (a := i) (b := 27) hi (by omega)) (ff_Ygd (n := 3) (by omega) (show i < 27 from hi) (ff_Bz (fun hf => ⟨vp_in_nI hi (by decide), ?_⟩) (fun hf => ⟨vp_in_nI hi (by decide), ?_⟩)))
    · have hf : ff_ok fb 3 (27 + i) = false := hf
      rw [nI_clamp (show i < 2 ^ 31 by omega)]
      exact nm_e (nm_r (nI_1 i) (hk _ (ff_tl (E := fun t => ff_i (ff_ok fb 3 (27 + t))) hs (by rw [hf]; rfl))))
    · have hf : ff_ok fb 3 (27 + i) = true := hf
      rw [nI_clamp (show i < 2 ^ 31 by omega)]
      exact nm_e (nm_r (nI_1 i) (hk _ (ff_tl (E := fun t => ff_i (ff_ok fb 3 (27 + t))) hs (by rw [hf]; rfl))))
theorem ff_count (v1 : Int32) : ∃ r : Int64, (∀ post : Int64 → SX → Prop, (∀ wt' lt' : Nat → Int64, post r (fp, fb, wt', lt')) → wpX_count post (fp, fb, wt, lt) v1) ∧ (∀ post : Int64 → SY → Prop, (∀ nw' lr' : Nat → Int64, post r (fp, fb, nw', lr')) → wpY_count post (fp, fb, nw, lr) v1) := by
  rcases ff_ixN v1 30 (by decide) with h | ⟨n, hn, rfl⟩
  · refine ⟨-1, fun post k => ?_, fun post k => ?_⟩
    · unfold wpX_count; dsimp only
      rcases h with h | ⟨h, h'⟩
      · exact br_t h (k _ _)
      · exact br_f h (br_f (ff_nle.mpr h') (k _ _))
    · unfold wpY_count; dsimp only
      rcases h with h | ⟨h, h'⟩
      · exact br_t h (k _ _)
      · exact br_f h (br_f (ff_nle.mpr h') (k _ _))
  · refine ⟨lN (ff_tot fb n), fun post k => ?_, fun post k => ?_⟩
    · unfold wpX_count; dsimp only
      refine br_f (nI_pos (by omega)) (br_t (nI_le (a := n) (b := 30) hn (by decide)) (ff_Xaw hn (fun wt' lt' => ?_)))
      exact k wt' lt'
    · unfold wpY_count; dsimp only
      refine br_f (nI_pos (by omega)) (br_t (nI_le (a := n) (b := 30) hn (by decide)) ?_)
      refine pk_le 4 n (fun h => ff_Yc h hn k) (fun h => ff_Ypl (by omega) ?_)
      have hp := ff_p4 (k := n) (by omega)
      have ht := ff_tot_le fb n
      show post (nI (ff_tot fb n)).toInt64 (fp, fb, nw, lr)
      rw [nI_l (by omega)]
      exact k _ _
theorem ff_longest : ∃ r : Int32, (∀ post : Int32 → SX → Prop, (∀ wt' lt' : Nat → Int64, post r (fp, fb, wt', lt')) → wpX_longest post (fp, fb, wt, lt)) ∧ (∀ post : Int32 → Prop, post r → wpY_longest post (fp, fb, nw, lr)) := by
  refine ⟨nI (ff_lg fb 9), fun post k => ?_, fun post k => ?_⟩
  · unfold wpX_longest; dsimp only
    refine pk_loop (fun m i (s : Int32 × (Nat → Int64) × (Nat → Int64)) => wX_longest_4 post m s.1 (nI i) fp fb s.2.1 s.2.2) (fun i s => 1 ≤ i ∧ s.1 = nI (ff_lg fb (i - 1))) 10 1 (0, wt, lt) (by omega) ⟨Nat.le_refl 1, rfl⟩ (fun m s hs => ?_) (fun m i s hi hs hk => ?_)
    · obtain ⟨x, w, l⟩ := s
      obtain ⟨_, hx⟩ := hs
      dsimp only at hx ⊢
      rw [hx]
      exact br_t (nI_lt (a := 9) (b := 10) (by omega) (by omega)) (k w l)
    · obtain ⟨x, w, l⟩ := s
      obtain ⟨h1, hx⟩ := hs
      dsimp only at hx h1 ⊢
      rw [hx]
      have htot : ff_tot fb i < 2 ^ 63 := Nat.lt_of_le_of_lt (ff_tot_le fb i) (ff_pow_lt (by omega))
      have eg : ff_lg fb i = if 0 < ff_tot fb i then i else ff_lg fb (i - 1) := by
        obtain ⟨j, rfl⟩ : ∃ j, i = j + 1 := ⟨i - 1, by omega⟩
        rfl
      refine br_f (nI_nlt (a := 9) (b := i) (by omega) (by omega)) (ff_Xaw (by omega) (fun w' l' => ?_))
      show (lN (ff_tot fb i) ≤ 0 → _) ∧ (¬ lN (ff_tot fb i) ≤ 0 → _)
      refine br_c (fun h => nm_r (nI_1 i) (hk (nI (ff_lg fb (i - 1)), w', l') ⟨by omega, ?_⟩)) (fun h => nm_r (nI_1 i) (hk (nI i, w', l') ⟨by omega, ?_⟩))
      · have h := (ff_lz htot).mp h
        show nI (ff_lg fb (i - 1)) = nI (ff_lg fb (i + 1 - 1))
        rw [Nat.add_sub_cancel, eg, if_neg (by omega)]
      · have h := fun z => h ((ff_lz htot).mpr z)
        show nI i = nI (ff_lg fb (i + 1 - 1))
        rw [Nat.add_sub_cancel, eg, if_pos (Nat.pos_of_ne_zero h)]
  · unfold wpY_longest; dsimp only
    refine pk_loop (fun m i (s : Int32) => wY_longest_4 post fp fb nw lr m s (nI i)) (fun i s => 1 ≤ i ∧ s = nI (ff_lg fb (i - 1))) 10 1 0 (by omega) ⟨Nat.le_refl 1, rfl⟩ (fun m s hs => ?_) (fun m i s hi hs hk => ?_)
    · obtain ⟨_, hx⟩ := hs
      rw [hx]
      exact br_t (nI_le (a := 10) (b := 10) (by omega) (by omega)) k
    · obtain ⟨h1, hx⟩ := hs
      rw [hx]
      have hp : 3 ^ i ≤ 19683 := ff_p9 (by omega)
      have ht := ff_tot_le fb i
      have eg : ff_lg fb i = if 0 < ff_tot fb i then i else ff_lg fb (i - 1) := by
        obtain ⟨j, rfl⟩ : ∃ j, i = j + 1 := ⟨i - 1, by omega⟩
        rfl
      refine br_f (nI_ge (a := i) (b := 10) hi (by omega)) (ff_Ypl (by omega) ?_)
      refine pk_le (ff_tot fb i) 0 (fun h => nm_r (nI_1 i) (hk _ ⟨by omega, ?_⟩)) (fun h => nm_r (nI_1 i) (hk _ ⟨by omega, ?_⟩))
      · rw [Nat.add_sub_cancel, eg, if_neg (by omega)]
      · rw [Nat.add_sub_cancel, eg, if_pos h]
end
