/-- the same pieces are forbidden, and both count them alike; the tables of a counting are free -/
def i_Rel (_ : Nat) (u : SX) (v : SY) : Prop := u.1 = v.1 ∧ u.2.1 = v.2.1
theorem i_up {k : Nat} {u : SX} {v : SY} (h : i_Rel k u v) : i_Rel (k + 3) u v := h
theorem i_vc0 : wpX_init (fun u => wpY_init (fun v => i_Rel 0 u v)) := ⟨rfl, rfl⟩
theorem i_vc_forbid {k : Nat} {u : SX} {v : SY} (I : i_Rel k u v) (hk : k + 3 ≤ 1536) (v1 : Int32) : wpX_forbid (fun r u' => wpY_forbid (fun r' v' => r' = r ∧ i_Rel (k + 3) u' v') v v1) u v1 := by
  obtain ⟨fp, fb, wt, lt⟩ := u
  obtain ⟨hd, br, nw, lr⟩ := v
  obtain ⟨e1, e2⟩ := I
  obtain rfl : fp = hd := e1
  obtain rfl : fb = br := e2
  unfold wpX_forbid
  dsimp only
  rcases ff_piece v1 with h | ⟨kk, q, h1, h4, hq, rfl⟩
  · refine ff_XpiN h (br_t rfl ?_)
    unfold wpY_forbid
    dsimp only
    exact ff_YleN h (br_t rfl ⟨rfl, rfl, rfl⟩)
  have hpk := ff_p4 h4
  have hin : vp_in (nI (3 ^ kk + q)) 162 := vp_in_nI (by omega) (by decide)
  refine ff_Xpi h1 h4 hq (br_f ff_n1 ⟨hin, ?_⟩)
  have hY : ∀ post : Int32 → SY → Prop, ((fb (nI (3 ^ kk + q)).toNatClampNeg = 0 → ((fp ≤ 5 → (vp_in (nI (3 ^ kk + q)) 162 ∧ ∀ y, y = upd fb (nI (3 ^ kk + q)).toNatClampNeg (vp_nar .boolean 1) → ∀ z, z = fp + 1 → post z (z, y, nw, lr))) ∧ (¬ fp ≤ 5 → post (-3) (fp, fb, nw, lr)))) ∧ (¬ fb (nI (3 ^ kk + q)).toNatClampNeg = 0 → post (-2) (fp, fb, nw, lr))) → wpY_forbid post (fp, fb, nw, lr) (nI (3 ^ kk + q)) := by
    intro post h
    unfold wpY_forbid
    dsimp only
    exact ff_Yle h1 h4 hq (br_f (nI_ne0 (by omega) (by omega)) ⟨hin, h⟩)
  have hlt : fp < 6 ↔ fp ≤ 5 := ff_lt1 (v := fp) (a := 5) (by decide)
  refine br_c (fun hz => br_c (fun h6 => ⟨hin, nm_e (nm_e ?_)⟩) (fun h6 => ?_)) (fun hz => ?_)
  · exact hY _ (br_t hz (br_t (hlt.mp h6) ⟨hin, nm_e (nm_e ⟨rfl, rfl, rfl⟩)⟩))
  · exact hY _ (br_t hz (br_f (fun z => h6 (hlt.mpr z)) ⟨rfl, rfl, rfl⟩))
  · exact hY _ (br_f hz ⟨rfl, rfl, rfl⟩)
theorem i_vc_permit {k : Nat} {u : SX} {v : SY} (I : i_Rel k u v) (hk : k + 3 ≤ 1536) (v1 : Int32) : wpX_permit (fun r u' => wpY_permit (fun r' v' => r' = r ∧ i_Rel (k + 3) u' v') v v1) u v1 := by
  obtain ⟨fp, fb, wt, lt⟩ := u
  obtain ⟨hd, br, nw, lr⟩ := v
  obtain ⟨e1, e2⟩ := I
  obtain rfl : fp = hd := e1
  obtain rfl : fb = br := e2
  unfold wpX_permit
  dsimp only
  rcases ff_piece v1 with h | ⟨kk, q, h1, h4, hq, rfl⟩
  · refine ff_XpiN h (br_t rfl ?_)
    unfold wpY_permit
    dsimp only
    exact ff_YleN h (br_t rfl ⟨rfl, rfl, rfl⟩)
  have hpk := ff_p4 h4
  have hin : vp_in (nI (3 ^ kk + q)) 162 := vp_in_nI (by omega) (by decide)
  refine ff_Xpi h1 h4 hq (br_f ff_n1 ⟨hin, ?_⟩)
  have hY : ∀ post : Int32 → SY → Prop, ((fb (nI (3 ^ kk + q)).toNatClampNeg = 0 → post (-1) (fp, fb, nw, lr)) ∧ (¬ fb (nI (3 ^ kk + q)).toNatClampNeg = 0 → (vp_in (nI (3 ^ kk + q)) 162 ∧ ∀ y, y = upd fb (nI (3 ^ kk + q)).toNatClampNeg (vp_nar .boolean 0) → ∀ z, z = fp - 1 → post z (z, y, nw, lr)))) → wpY_permit post (fp, fb, nw, lr) (nI (3 ^ kk + q)) := by
    intro post h
    unfold wpY_permit
    dsimp only
    exact ff_Yle h1 h4 hq (br_f (nI_ne0 (by omega) (by omega)) ⟨hin, h⟩)
  refine br_c (fun hz => ?_) (fun hz => ⟨hin, nm_e (nm_e ?_)⟩)
  · exact hY _ (br_t hz ⟨rfl, rfl, rfl⟩)
  · exact hY _ (br_f hz ⟨hin, nm_e (nm_e ⟨rfl, rfl, rfl⟩)⟩)
theorem i_vc_pieces {k : Nat} {u : SX} {v : SY} (I : i_Rel k u v) (hk : k + 3 ≤ 1536) : wpX_pieces (fun r => wpY_pieces (fun r' => r' = r ∧ i_Rel (k + 3) u v) v) u := by
  obtain ⟨fp, fb, wt, lt⟩ := u
  obtain ⟨hd, br, nw, lr⟩ := v
  exact ⟨I.1.symm, I⟩
theorem i_vc_allowed {k : Nat} {u : SX} {v : SY} (I : i_Rel k u v) (hk : k + 3 ≤ 1536) (v1 : Int32) (v2 : Int32) : wpX_allowed (fun r => wpY_allowed (fun r' => r' = r ∧ i_Rel (k + 3) u v) v v1 v2) u v1 v2 := by
  obtain ⟨fp, fb, wt, lt⟩ := u
  obtain ⟨hd, br, nw, lr⟩ := v
  obtain ⟨e1, e2⟩ := I
  obtain rfl : fp = hd := e1
  obtain rfl : fb = br := e2
  obtain ⟨r, hX, hY⟩ := ff_allowed (fp := fp) (fb := fb) (wt := wt) (lt := lt) (nw := nw) (lr := lr) v1 v2
  exact hX _ (hY _ ⟨rfl, rfl, rfl⟩)
theorem i_vc_countWith {k : Nat} {u : SX} {v : SY} (I : i_Rel k u v) (hk : k + 3 ≤ 1536) (v1 : Int32) (v2 : Int32) : wpX_countWith (fun r => wpY_countWith (fun r' => r' = r ∧ i_Rel (k + 3) u v) v v1 v2) u v1 v2 := by
  obtain ⟨fp, fb, wt, lt⟩ := u
  obtain ⟨hd, br, nw, lr⟩ := v
  obtain ⟨e1, e2⟩ := I
  obtain rfl : fp = hd := e1
  obtain rfl : fb = br := e2
  obtain ⟨r, hX, hY⟩ := ff_countWith (fp := fp) (fb := fb) (wt := wt) (lt := lt) (nw := nw) (lr := lr) v1 v2
  exact hX _ (hY _ ⟨rfl, rfl, rfl⟩)
theorem i_vc_rank {k : Nat} {u : SX} {v : SY} (I : i_Rel k u v) (hk : k + 3 ≤ 1536) (v1 : Int32) (v2 : Int32) : wpX_rank (fun r => wpY_rank (fun r' => r' = r ∧ i_Rel (k + 3) u v) v v1 v2) u v1 v2 := by
  obtain ⟨fp, fb, wt, lt⟩ := u
  obtain ⟨hd, br, nw, lr⟩ := v
  obtain ⟨e1, e2⟩ := I
  obtain rfl : fp = hd := e1
  obtain rfl : fb = br := e2
  obtain ⟨r, hX, hY⟩ := ff_rank (fp := fp) (fb := fb) (wt := wt) (lt := lt) (nw := nw) (lr := lr) v1 v2
  exact hX _ (hY _ ⟨rfl, rfl, rfl⟩)
theorem i_vc_word {k : Nat} {u : SX} {v : SY} (I : i_Rel k u v) (hk : k + 3 ≤ 1536) (v1 : Int32) (v2 : Int32) : wpX_word (fun r => wpY_word (fun r' => r' = r ∧ i_Rel (k + 3) u v) v v1 v2) u v1 v2 := by
  obtain ⟨fp, fb, wt, lt⟩ := u
  obtain ⟨hd, br, nw, lr⟩ := v
  obtain ⟨e1, e2⟩ := I
  obtain rfl : fp = hd := e1
  obtain rfl : fb = br := e2
  obtain ⟨r, hX, hY⟩ := ff_word (fp := fp) (fb := fb) (wt := wt) (lt := lt) (nw := nw) (lr := lr) v1 v2
  exact hX _ (hY _ ⟨rfl, rfl, rfl⟩)
theorem i_vc_next {k : Nat} {u : SX} {v : SY} (I : i_Rel k u v) (hk : k + 3 ≤ 1536) (v1 : Int32) (v2 : Int32) : wpX_next (fun r => wpY_next (fun r' => r' = r ∧ i_Rel (k + 3) u v) v v1 v2) u v1 v2 := by
  obtain ⟨fp, fb, wt, lt⟩ := u
  obtain ⟨hd, br, nw, lr⟩ := v
  obtain ⟨e1, e2⟩ := I
  obtain rfl : fp = hd := e1
  obtain rfl : fb = br := e2
  obtain ⟨r, hX, hY⟩ := ff_next (fp := fp) (fb := fb) (wt := wt) (lt := lt) (nw := nw) (lr := lr) v1 v2
  exact hX _ (hY _ ⟨rfl, rfl, rfl⟩)
theorem i_vc_beginning {k : Nat} {u : SX} {v : SY} (I : i_Rel k u v) (hk : k + 3 ≤ 1536) (v1 : Int32) (v2 : Int32) : wpX_beginning (fun r => wpY_beginning (fun r' => r' = r ∧ i_Rel (k + 3) u v) v v1 v2) u v1 v2 := by
  obtain ⟨fp, fb, wt, lt⟩ := u
  obtain ⟨hd, br, nw, lr⟩ := v
  obtain ⟨e1, e2⟩ := I
  obtain rfl : fp = hd := e1
  obtain rfl : fb = br := e2
  obtain ⟨r, hX, hY⟩ := ff_beginning (fp := fp) (fb := fb) (wt := wt) (lt := lt) (nw := nw) (lr := lr) v1 v2
  exact hX _ (hY _ ⟨rfl, rfl, rfl⟩)
theorem i_vc_ending {k : Nat} {u : SX} {v : SY} (I : i_Rel k u v) (hk : k + 3 ≤ 1536) (v1 : Int32) (v2 : Int32) : wpX_ending (fun r => wpY_ending (fun r' => r' = r ∧ i_Rel (k + 3) u v) v v1 v2) u v1 v2 := by
  obtain ⟨fp, fb, wt, lt⟩ := u
  obtain ⟨hd, br, nw, lr⟩ := v
  obtain ⟨e1, e2⟩ := I
  obtain rfl : fp = hd := e1
  obtain rfl : fb = br := e2
  obtain ⟨r, hX, hY⟩ := ff_ending (fp := fp) (fb := fb) (wt := wt) (lt := lt) (nw := nw) (lr := lr) v1 v2
  exact hX _ (hY _ ⟨rfl, rfl, rfl⟩)
theorem i_vc_standing {k : Nat} {u : SX} {v : SY} (I : i_Rel k u v) (hk : k + 3 ≤ 1536) (v1 : Int32) (v2 : Int32) : wpX_standing (fun r => wpY_standing (fun r' => r' = r ∧ i_Rel (k + 3) u v) v v1 v2) u v1 v2 := by
  obtain ⟨fp, fb, wt, lt⟩ := u
  obtain ⟨hd, br, nw, lr⟩ := v
  obtain ⟨e1, e2⟩ := I
  obtain rfl : fp = hd := e1
  obtain rfl : fb = br := e2
  obtain ⟨r, hX, hY⟩ := ff_standing (fp := fp) (fb := fb) (wt := wt) (lt := lt) (nw := nw) (lr := lr) v1 v2
  exact hX _ (hY _ ⟨rfl, rfl, rfl⟩)
theorem i_vc_choices {k : Nat} {u : SX} {v : SY} (I : i_Rel k u v) (hk : k + 3 ≤ 1536) (v1 : Int32) (v2 : Int32) : wpX_choices (fun r => wpY_choices (fun r' => r' = r ∧ i_Rel (k + 3) u v) v v1 v2) u v1 v2 := by
  obtain ⟨fp, fb, wt, lt⟩ := u
  obtain ⟨hd, br, nw, lr⟩ := v
  obtain ⟨e1, e2⟩ := I
  obtain rfl : fp = hd := e1
  obtain rfl : fb = br := e2
  obtain ⟨r, hX, hY⟩ := ff_choices (fp := fp) (fb := fb) (wt := wt) (lt := lt) (nw := nw) (lr := lr) v1 v2
  exact hX _ (hY _ ⟨rfl, rfl, rfl⟩)
theorem i_vc_mirrored {k : Nat} {u : SX} {v : SY} (I : i_Rel k u v) (hk : k + 3 ≤ 1536) (v1 : Int32) : wpX_mirrored (fun r => wpY_mirrored (fun r' => r' = r ∧ i_Rel (k + 3) u v) v v1) u v1 := by
  obtain ⟨fp, fb, wt, lt⟩ := u
  obtain ⟨hd, br, nw, lr⟩ := v
  obtain ⟨e1, e2⟩ := I
  obtain rfl : fp = hd := e1
  obtain rfl : fb = br := e2
  obtain ⟨r, hX, hY⟩ := ff_mirrored (fp := fp) (fb := fb) (wt := wt) (lt := lt) (nw := nw) (lr := lr) v1
  exact hX _ (hY _ ⟨rfl, rfl, rfl⟩)
theorem i_vc_count {k : Nat} {u : SX} {v : SY} (I : i_Rel k u v) (hk : k + 3 ≤ 1536) (v1 : Int32) : wpX_count (fun r u' => wpY_count (fun r' v' => r' = r ∧ i_Rel (k + 3) u' v') v v1) u v1 := by
  obtain ⟨fp, fb, wt, lt⟩ := u
  obtain ⟨hd, br, nw, lr⟩ := v
  obtain ⟨e1, e2⟩ := I
  obtain rfl : fp = hd := e1
  obtain rfl : fb = br := e2
  obtain ⟨r, hX, hY⟩ := ff_count (fp := fp) (fb := fb) (wt := wt) (lt := lt) (nw := nw) (lr := lr) v1
  exact hX _ (fun wt' lt' => hY _ (fun nw' lr' => ⟨rfl, rfl, rfl⟩))
theorem i_vc_longest {k : Nat} {u : SX} {v : SY} (I : i_Rel k u v) (hk : k + 3 ≤ 1536) : wpX_longest (fun r u' => wpY_longest (fun r' => r' = r ∧ i_Rel (k + 3) u' v) v) u := by
  obtain ⟨fp, fb, wt, lt⟩ := u
  obtain ⟨hd, br, nw, lr⟩ := v
  obtain ⟨e1, e2⟩ := I
  obtain rfl : fp = hd := e1
  obtain rfl : fb = br := e2
  obtain ⟨r, hX, hY⟩ := ff_longest (fp := fp) (fb := fb) (wt := wt) (lt := lt) (nw := nw) (lr := lr)
  exact hX _ (fun wt' lt' => hY _ ⟨rfl, rfl, rfl⟩)
