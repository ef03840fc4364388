/-! contracts: the reference's readers of a sentence: one; all together -/
section
variable {Y : am_Y} {h h0 h1 : am_H} {m : Nat} {s : Nat → Int} {n lim : Nat} {S : SS}
/-- one step out again -/
theorem mSO.down {h6 h7 h9 : am_H} {w v : Int} {e : PE (SS × Int)} (f : mFs h h6 m) (o : mSO h6 m s n lim (w + 1) e v h7) (e9 : h9 = am_u h7 m 63 (h7 m 63 - 1)) : (v = 0 ∨ v = 1) ∧ mSO h m s n lim w e v h9 := by
  refine ⟨o.x, ?_⟩
  obtain ⟨o1, o2, o3⟩ := o
  have q9 : ∀ q, q ≠ m → h9 q = h7 q := fun q hq => by rw [e9, am_u_n _ _ _ _ q hq]
  have j9 : ∀ j, j ≠ 63 → h9 m j = h7 m j := fun j hj => by rw [e9, am_u_j hj]
  refine ⟨(f.trans o1).trans (mFs.u e9 (by omega)), by rw [e9, am_u_s, o2]; omega, ?_⟩
  cases e with
  | inl q => exact ⟨o3.1, (j9 10 (by omega)).trans o3.2.1, (j9 11 (by omega)).trans o3.2.2⟩
  | inr T => exact ⟨o3.1, o3.2.1.but fun j a b _ _ => j9 j (by omega), o3.2.2.1.of (j9 61 (by omega)) (q9 _ (by omega)), (j9 62 (by omega)).trans o3.2.2.2.1, (j9 64 (by omega)).trans o3.2.2.2.2⟩
theorem mR0 {k : Nat} (hY : am_at Y m am_L12) (i0 : mT0 Y m s n lim k) (i3 : mT3 Y m s n lim k) : mT0 Y m s n lim (k + 1) := by
  intro w S h D hw hk p hD
  have pp := p
  obtain ⟨hc, hr, nd, h62, h63, te, ok, q0, ql⟩ := pp
  have at46 : ∀ y1 y2 : Int, (y1 = 1 ∧ (hd S.2.2).1 = 30 ∨ y1 = 0 ∧ y2 = (hd S.2.2).1 ∧ 16 ≤ y2 ∧ y2 ≤ 23) → aw_Md_readOne_46 D Y m y1 y2 h (am_qI (mSO h m s n lim w (sP (k + 1) 0 (w : Int) 0 S))) := by
    intro y1 y2 hy
    have many : (S.2.1 = 20 ∨ (w : Int) = 8) → ∀ h1, mFn h h1 m → h1 m 10 = (pq S.2.2 4).1 → h1 m 11 = (pq S.2.2 4).2 → mSO h m s n lim w (sP (k + 1) 0 (w : Int) 0 S) 0 h1 := by
      intro z h1 f1 e4 e5
      refine mSO.bad f1.s ((f1.2 63 (by omega)).trans h63) e4 e5 ?_
      rw [sP, if_pos rfl, if_neg (by omega), if_pos z]
    refine ab_Md_readOne_46 hY ?_
    rw [h62, h63]
    refine ⟨fun z => badK hY hr (by omega) fun h1 f1 e4 e5 => many (by omega) h1 f1 e4 e5, fun z => ⟨fun z2 => ⟨⟨by omega, by omega⟩, fun h4 e4 => ?_⟩, fun z2 => badK hY hr (by omega) fun h1 f1 e4 e5 => many (by omega) h1 f1 e4 e5⟩⟩
    have k4 : h4 m 63 = w := by rw [e4, am_u_j (by omega)]; exact h63
    rw [k4]
    refine ⟨⟨by omega, by omega⟩, fun h5 e5 => ?_⟩
    have s5 : mFs h h5 m := (mFs.u e4 (by omega)).trans (mFs.u e5 (by omega))
    have j5 : ∀ j, j ≠ 62 → j ≠ 63 → h5 m j = h m j := fun j a b => by rw [e5, am_u_j b, e4, am_u_j a]
    refine goK hY (hc.st s5) (hr.but fun j a b _ _ => j5 j (by omega) (by omega)) (by omega) ?_
    intro h6 f6 g6 r6
    have s6 : mFs h h6 m := s5.trans f6.s
    have len := te.len (by omega)
    have n6 : mNd h6 m S.1 := nd.of ((f6.2 61 (by omega)).trans (j5 61 (by omega) (by omega))) (by rw [f6.1 _ (by omega), e5, am_u_n _ _ _ _ _ (by omega), e4, am_u_n _ _ _ _ _ (by omega)])
    have o6 : h6 m 62 = S.2.1 + 1 := by rw [f6.2 62 (by omega), e5, am_u_j (by omega), e4, am_u_s]
    have w6 : h6 m 63 = (w : Int) + 1 := by rw [f6.2 63 (by omega), e5, am_u_s]
    have p6 : mPre h6 m s n lim ((w : Int) + 1) (S.1, S.2.1 + 1, nx S.2.2) := ⟨hc.st s6, r6, n6, o6, w6, te.n1, ok, by show 0 ≤ S.2.1 + 1 ∧ S.2.1 + 1 ≤ 20; omega, by show (S.1.length : Int) ≤ 2 * (S.2.1 + 1); omega⟩
    have cw : ((w : Int) + 1) = ((w + 1 : Nat) : Int) := by omega
    -- a node of its own
    have leaf : ∀ (ln : LN) (v : Int) (h11 : am_H), sP (k + 1) 0 (w : Int) 0 S = .inr (slay (S.1, S.2.1 + 1, nx S.2.2) ln) → mNd h11 m (S.1 ++ [ln]) → (∀ q, q ≠ m → q ≠ m + 30 → h11 q = h6 q) → (∀ j, j ≠ 61 → h11 m j = h6 m j) → v = (S.1.length : Int) → ∀ h13 : am_H, h13 = am_u h11 m 64 v → am_ri (h13 m 63 - 1) ∧ ∀ h14 : am_H, h14 = am_u h13 m 63 (h13 m 63 - 1) → am_qI (mSO h m s n lim w (sP (k + 1) 0 (w : Int) 0 S)) (some (.inl 1)) h14 := by
      intro ln v h11 ep n11 q11 j11 ev h13 e13
      have j13 : ∀ j, j ≠ 64 → h13 m j = h11 m j := fun j hj => by rw [e13, am_u_j hj]
      have q13 : ∀ q, q ≠ m → h13 q = h11 q := fun q hq => by rw [e13, am_u_n _ _ _ _ q hq]
      have k13 : h13 m 63 = (w : Int) + 1 := by rw [j13 63 (by omega), j11 63 (by omega)]; exact w6
      refine ⟨by rw [k13]; exact ⟨by omega, by omega⟩, fun h14 e14 => ?_⟩
      rw [am_qI_s, ep]
      refine (mSO.down s6 (e := .inr (slay (S.1, S.2.1 + 1, nx S.2.2) ln)) ⟨?_, k13, rfl, ?_, ?_, ?_, ?_⟩ e14).2
      · exact ⟨fun q a b => by rw [q13 q a, q11 q a b], fun j hj => by rw [j13 j (by omega), j11 j (by omega)]⟩
      · exact r6.but fun j a b _ _ => by rw [j13 j (by omega), j11 j (by omega)]
      · exact n11.of (j13 61 (by omega)) (q13 _ (by omega))
      · rw [j13 62 (by omega), j11 62 (by omega)]; exact o6
      · rw [e13, am_u_s]; exact ev
    refine ⟨fun c0 => ⟨fun c16 => ⟨fun c19 => ?_, fun c19 => ⟨fun c17 => ?_, fun c17 => ?_⟩⟩, fun c16 => ?_⟩, fun c0 => ?_⟩
    · -- a figure
      have ep : sP (k + 1) 0 (w : Int) 0 S = sCmp (y2 - 19) (S.1, S.2.1 + 1, nx S.2.2) := by
        rw [sP, if_pos rfl, if_neg (by omega), if_neg (by omega), if_neg (by omega), if_neg (by omega), if_neg (by omega), if_neg (by omega), show (hd S.2.2).1 = y2 by omega]
      rw [ep]
      refine am_kI.of (ac_m_readCompare (d := 0) hY p6.1 r6 n6 (by omega) w6 o6 (by omega)) (by omega) ?_
      intro v h7 _ _ c
      have k7 : h7 m 63 = (w : Int) + 1 := c.2.1
      refine ⟨by rw [k7]; exact ⟨by omega, by omega⟩, fun h9 e9 => ?_⟩
      rw [am_qI_s]
      exact mSO.down s6 c e9
    · -- free
      have ep : sP (k + 1) 0 (w : Int) 0 S = .inr (slay (S.1, S.2.1 + 1, nx S.2.2) (5, 0, 0, 0)) := by
        rw [sP, if_pos rfl, if_neg (by omega), if_neg (by omega), if_neg (by omega), if_neg (by omega), if_neg (by omega), if_pos (by omega)]
      exact laysK hY n6 (by omega) (by omega) fun h11 n11 q11 j11 h13 e13 => leaf _ _ h11 ep n11 q11 j11 rfl h13 e13
    · -- bound
      have ep : sP (k + 1) 0 (w : Int) 0 S = .inr (slay (S.1, S.2.1 + 1, nx S.2.2) (4, 0, 0, 0)) := by
        rw [sP, if_pos rfl, if_neg (by omega), if_neg (by omega), if_neg (by omega), if_neg (by omega), if_pos (by omega)]
      exact laysK hY n6 (by omega) (by omega) fun h11 n11 q11 j11 h13 e13 => leaf _ _ h11 ep n11 q11 j11 rfl h13 e13
    · -- not
      have ep : sP (k + 1) 0 (w : Int) 0 S = pbd (sP k 0 ((w : Int) + 1) 0 (S.1, S.2.1 + 1, nx S.2.2)) fun T => .inr (slay T.1 (1, T.2, 0, 0)) := by
        rw [sP, if_pos rfl, if_neg (by omega), if_neg (by omega), if_neg (by omega), if_pos (by omega)]
      have rn : am_cI am_Md_readNot (D - 1) Y [.inr (.inr m)] h6 (mSO h6 m s n lim ((w : Int) + 1) (sP (k + 1) 0 (w : Int) 0 S)) := by
        rw [ep, cw]
        rw [cw] at p6
        refine am_Met.of (by decide) rfl (Nat.le_of_ble_eq_true rfl) (ab_Md_readNot_0 hY ?_)
        refine am_kI.of (i0 (w + 1) (S.1, S.2.1 + 1, nx S.2.2) h6 (D - 2) (by omega) (by show 6 * (nx S.2.2).length ≤ k; omega) p6 (by omega)) (by omega) ?_
        intro x h7 _ _ c
        cases e2 : sP k 0 ((w + 1 : Nat) : Int) 0 (S.1, S.2.1 + 1, nx S.2.2) with
        | inl q =>
          rw [e2] at c
          rw [pbd_l rfl]
          obtain ⟨f, f3, rfl, e10, e11⟩ := c
          refine ⟨fun z => absurd rfl z, fun _ => ?_⟩
          rw [am_qI_s]
          exact ⟨f, f3, rfl, e10, e11⟩
        | inr T =>
          rw [e2] at c
          rw [pbd_r rfl]
          have i := sP_i k 0 ((w + 1 : Nat) : Int) 0 (S.1, S.2.1 + 1, nx S.2.2) T (by omega) (by show 6 * (nx S.2.2).length + 0 ≤ k; omega) te.n1 ok (by show S.2.1 + 1 ≤ 20; omega) (by omega) e2
          have i5 := i.2.2.2.2.1
          have i7 := i.2.2.2.2.2.2.1
          rw [if_neg (by omega)] at i7
          dsimp only at i7
          obtain ⟨f, f3, rfl, r7, n7, o7, t7⟩ := c
          refine ⟨fun _ => ?_, fun z => absurd z (by decide)⟩
          rw [t7]
          refine laysK hY n7 (by omega) (by omega) ?_
          intro h8 n8 q8 j8 h9 e9
          have j9 : ∀ j, j ≠ 64 → h9 m j = h8 m j := fun j hj => by rw [e9, am_u_j hj]
          have q9 : ∀ q, q ≠ m → h9 q = h8 q := fun q hq => by rw [e9, am_u_n _ _ _ _ q hq]
          rw [am_qI_s]
          refine ⟨⟨fun q a b => by rw [q9 q a, q8 q a b, f.1 q a b], fun j hj => by rw [j9 j (by omega), j8 j (by omega), f.2 j hj]⟩, by rw [j9 63 (by omega), j8 63 (by omega)]; exact f3, rfl, r7.but fun j a b _ _ => by rw [j9 j (by omega), j8 j (by omega)], n8.of (j9 61 (by omega)) (q9 _ (by omega)), ?_, ?_⟩
          · rw [j9 62 (by omega), j8 62 (by omega)]; exact o7
          · rw [e9, am_u_s]; rfl
      refine am_kI.of rn (by omega) ?_
      intro v h7 _ _ c
      have k7 : h7 m 63 = (w : Int) + 1 := c.2.1
      refine ⟨by rw [k7]; exact ⟨by omega, by omega⟩, fun h9 e9 => ?_⟩
      rw [am_qI_s]
      exact mSO.down s6 c e9
    · -- a bracket
      have c30 : (hd S.2.2).1 = 30 := by omega
      have ep : sP (k + 1) 0 (w : Int) 0 S = pbd (sP k 3 ((w : Int) + 1) 0 (S.1, S.2.1 + 1, nx S.2.2)) fun T => if (hd T.1.2.2).1 = 31 then .inr ((T.1.1, T.1.2.1, nx T.1.2.2), T.2) else pb T.1.2.2 1 := by
        rw [sP, if_pos rfl, if_neg (by omega), if_neg (by omega), if_pos c30]
      have rb : am_cI am_Md_readBracket (D - 1) Y [.inr (.inr m)] h6 (mSO h6 m s n lim ((w : Int) + 1) (sP (k + 1) 0 (w : Int) 0 S)) := by
        rw [ep, cw]
        rw [cw] at p6
        refine am_Met.of (by decide) rfl (Nat.le_of_ble_eq_true rfl) (ab_Md_readBracket_0 hY ?_)
        refine am_kI.of (i3 (w + 1) (S.1, S.2.1 + 1, nx S.2.2) h6 (D - 2) (by omega) (by show 6 * (nx S.2.2).length + 3 ≤ k; omega) p6 (by omega)) (by omega) ?_
        intro x h7 _ _ c
        cases e2 : sP k 3 ((w + 1 : Nat) : Int) 0 (S.1, S.2.1 + 1, nx S.2.2) with
        | inl q =>
          rw [e2] at c
          rw [pbd_l rfl]
          obtain ⟨f, f3, rfl, e10, e11⟩ := c
          refine ⟨fun z => absurd rfl z, fun _ => ?_⟩
          rw [am_qI_s]
          exact ⟨f, f3, rfl, e10, e11⟩
        | inr T =>
          rw [e2] at c
          rw [pbd_r rfl]
          obtain ⟨f, f3, rfl, r7, n7, o7, t7⟩ := c
          refine ⟨fun _ => ?_, fun z => absurd z (by decide)⟩
          refine signK (k := 31) hY r7 (by decide) (by decide) (by omega) ?_
          by_cases c31 : (hd T.1.2.2).1 = 31
          · rw [if_pos c31, if_pos c31]
            refine ⟨fun _ => goK hY (p6.1.st f) r7 (by omega) ?_, fun z => absurd z (by decide)⟩
            intro h8 f8 g8 r8
            rw [am_qI_s]
            exact ⟨f.trans f8.s, (f8.2 63 (by omega)).trans f3, rfl, r8, n7.fn f8, (f8.2 62 (by omega)).trans o7, (f8.2 64 (by omega)).trans t7⟩
          · rw [if_neg c31, if_neg c31]
            refine ⟨fun z => absurd rfl z, fun _ => badK hY r7 (by omega) ?_⟩
            intro h8 f8 e10 e11
            exact ⟨f.trans f8.s, (f8.2 63 (by omega)).trans f3, rfl, e10, e11⟩
      refine am_kI.of rb (by omega) ?_
      intro v h7 _ _ c
      have k7 : h7 m 63 = (w : Int) + 1 := c.2.1
      refine ⟨by rw [k7]; exact ⟨by omega, by omega⟩, fun h9 e9 => ?_⟩
      rw [am_qI_s]
      exact mSO.down s6 c e9
  have at10 : ∀ t : Nat, t ≤ 8 → (∀ j : Nat, j < t → ¬ (hd S.2.2).1 = 16 + (j : Int)) → aw_Md_readOne_10 D Y m (if (hd S.2.2).1 = 30 then 1 else 0) (16 + (t : Int)) h (am_qI (mSO h m s n lim w (sP (k + 1) 0 (w : Int) 0 S))) := by
    refine am_upN _ 8 ?_ ?_
    · intro hne
      by_cases c30 : (hd S.2.2).1 = 30
      · rw [if_pos c30]
        exact ab_Md_readOne_10 hY ⟨fun _ => ⟨fun _ => at46 1 _ (by omega), fun z => absurd z (by decide)⟩, fun z => by omega⟩
      · rw [if_neg c30]
        refine ab_Md_readOne_10 hY ⟨fun _ => ⟨fun z => absurd rfl z, fun _ => ⟨fun z => by omega, fun _ => badK hY hr (by omega) ?_⟩⟩, fun z => by omega⟩
        intro h1 f1 e10 e11
        refine mSO.bad f1.s ((f1.2 63 (by omega)).trans h63) e10 e11 ?_
        have n0 := hne 0 (by omega)
        have n1 := hne 1 (by omega)
        have n2 := hne 2 (by omega)
        have n3 := hne 3 (by omega)
        have n4 := hne 4 (by omega)
        have n5 := hne 5 (by omega)
        have n6 := hne 6 (by omega)
        have n7 := hne 7 (by omega)
        rw [sP, if_pos rfl, if_pos (by omega)]
    · intro t ht ih hne
      refine ab_Md_readOne_10 hY ⟨fun z => by omega, fun _ => ?_⟩
      have ec : (16 + (t : Int)) = ((16 + t : Nat) : Int) := by omega
      rw [ec]
      refine wordSK hY hr (by omega) (by omega) ?_
      by_cases c : (hd S.2.2).1 = ((16 + t : Nat) : Int)
      · rw [if_pos c, if_neg (by omega)]
        exact ⟨fun _ => ⟨fun z => absurd rfl z, fun _ => ⟨fun _ => at46 0 _ (by omega), fun z => by omega⟩⟩, fun z => absurd z (by decide)⟩
      · rw [if_neg c]
        refine ⟨fun z => absurd rfl z, fun _ => ⟨⟨by omega, by omega⟩, ?_⟩⟩
        have := ih fun j hj => by
          by_cases e : j = t
          · subst e; omega
          · exact hne j (by omega)
        rw [show ((16 + t : Nat) : Int) + 1 = 16 + ((t + 1 : Nat) : Int) by omega]
        exact this
  refine am_Met.of (by decide) rfl (Nat.le_of_ble_eq_true rfl) (ab_Md_readOne_0 hY (signK (k := 30) hY hr (by decide) (by decide) (by omega) ?_))
  exact at10 0 (by omega) fun j hj => by omega
theorem mR (hY : am_at Y m am_L12) : ∀ k : Nat, mT0 Y m s n lim k ∧ mT1 Y m s n lim k ∧ mT2 Y m s n lim k ∧ mT3 Y m s n lim k ∧ mT4 Y m s n lim k
  | 0 => by
    refine ⟨fun w S h D hw hk p => ?_, fun w S h D hw hk p => ?_, fun w S h h0 D a hw hk p => ?_, fun w S h D hw hk p => ?_, fun w S h h0 D a hw hk p => ?_⟩
    all_goals
      have := tE_ne p.2.2.2.2.2.1
      omega
  | k + 1 => by
    obtain ⟨i0, i1, i2, i3, i4⟩ := mR hY k
    exact ⟨mR0 hY i0 i3, mR1 hY i0 i2, mR2 hY i0 i2, mR3 hY i1 i4, mR4 hY i1 i4⟩
end
