/-! contracts: the reference judges a book, whole; what it tells of it -/
section
variable {d : Nat} {Y : am_Y} {h : am_H} {m : Nat} {J : am_H} {B : Int} {Q : Option am_V → am_H → Prop}
/-- what stands while a book is judged -/
def jS (h0 h : am_H) (m : Nat) (J : am_H) : Prop := jr h m J ∧ mJ h0 h m ∧ jBd J (384 * J 0 4) ∧ 0 ≤ J 0 4 ∧ J 0 4 ≤ 99
theorem loopJ46 {h0 : am_H} {i : Nat} {y b : Int} (hY : am_at Y m am_L12) (hz : rz (h0 (m + 2))) (hb : 0 ≤ b ∧ b < 830) (ey : h0 (m + 2) (b + 1).toNat = y) (y0 : 0 ≤ y ∧ y ≤ 99) (hi : i < 60)
    (next : ∀ h1 J1, J1 = jYrs (h0 (m + 2)) 100 y J → jS h0 h1 m J1 → aw_Md_doBook_10 (d + 2) Y m ((i : Int) + 1) h1 Q) :
    ∀ (f : Nat) (h : am_H) (J1 : am_H), y - J1 0 4 ≤ f → jYrs (h0 (m + 2)) f y J1 = jYrs (h0 (m + 2)) 100 y J → jS h0 h m J1 → aw_Md_doBook_46 (d + 2) Y m i b h Q
  | 0, h, J1, hf, e, c => by
    have eR : h (m + 2) = h0 (m + 2) := c.2.1.1 _ (by omega) (by omega)
    have e37 : h m 37 = J1 0 4 := c.1.1 4 (by omega)
    refine ab_Md_doBook_46 hY ⟨⟨by omega, by omega⟩, ⟨by omega, by omega⟩, ?_⟩
    rw [eR, ey, e37]
    exact ⟨fun _ => ⟨⟨by omega, by omega⟩, next h J1 e c⟩, fun w => by omega⟩
  | f + 1, h, J1, hf, e, c => by
    have eR : h (m + 2) = h0 (m + 2) := c.2.1.1 _ (by omega) (by omega)
    have e37 : h m 37 = J1 0 4 := c.1.1 4 (by omega)
    refine ab_Md_doBook_46 hY ⟨⟨by omega, by omega⟩, ⟨by omega, by omega⟩, ?_⟩
    rw [eR, ey, e37]
    obtain ⟨cj, cm, cb, c0, c99⟩ := c
    refine ⟨fun w => ⟨⟨by omega, by omega⟩, next h J1 ?_ ⟨cj, cm, cb, c0, c99⟩⟩, fun w => ?_⟩
    · rw [← e]
      exact (if_neg (by omega)).symm
    · refine am_kV.of (ac_m_endYear (d := 0) hY cj (by rw [eR]; exact hz) ⟨by omega, by omega⟩ cb ⟨by omega, by omega⟩) (by omega) (fun h1 _ p => ?_)
      rw [eR] at p
      obtain ⟨p1, p2, p3, p4⟩ := p
      refine loopJ46 hY hz hb ey y0 hi next f h1 (jEnd (h0 (m + 2)) J1) (by omega) ?_ ⟨p1, cm.trans p2, p3.le (by omega), by omega, by omega⟩
      rw [← e]
      exact (if_pos w).symm
theorem loopJ10 {h0 : am_H} {J0 : am_H} (hY : am_at Y m am_L12) (hz : rz (h0 (m + 2))) (hb3 : 0 ≤ h0 (m + 2) 3 ∧ h0 (m + 2) 3 ≤ 1000) (hl : lnsOK (h0 (m + 2)))
    (next : ∀ h1 J1, J1 = lp (fun i J => jLine (h0 (m + 2)) (lnA (h0 (m + 2)) i) i J) (h0 (m + 2) 341).toNat J0 → jS h0 h1 m J1 → am_kV am_Md_endYear (d + 3) Y [.inr (.inr m)] h1 (fun h2 => Q none h2)) :
    ∀ i : Nat, i ≤ (h0 (m + 2) 341).toNat → ∀ h, jS h0 h m (lp (fun i J => jLine (h0 (m + 2)) (lnA (h0 (m + 2)) i) i J) i J0) → aw_Md_doBook_10 (d + 3) Y m i h Q := by
  have hz' := hz
  unfold rz at hz'
  obtain ⟨l0, l1, l2⟩ := hl
  refine am_upN _ (h0 (m + 2) 341).toNat ?_ ?_
  · intro h c
    have eR : h (m + 2) = h0 (m + 2) := c.2.1.1 _ (by omega) (by omega)
    refine ab_Md_doBook_10 hY ⟨fun _ => next h _ rfl c, fun w => by rw [eR] at w; omega⟩
  · intro i hi ih h c
    have eR : h (m + 2) = h0 (m + 2) := c.2.1.1 _ (by omega) (by omega)
    have ih' : ∀ h1 J1, J1 = jLine (h0 (m + 2)) (lnA (h0 (m + 2)) i) i (lp (fun i J => jLine (h0 (m + 2)) (lnA (h0 (m + 2)) i) i J) i J0) → jS h0 h1 m J1 → aw_Md_doBook_10 (d + 3) Y m ((i : Int) + 1) h1 Q := fun h1 J1 e c1 => by
      subst e
      exact ih h1 c1
    generalize lp (fun i J => jLine (h0 (m + 2)) (lnA (h0 (m + 2)) i) i J) i J0 = J at c ih'
    obtain ⟨cj, cm, cb, c0, c99⟩ := c
    have ok := l2 i (by omega)
    have e0 : (342 + 4 * (i : Int)).toNat = 342 + 4 * i := by omega
    have e1 : (342 + 4 * (i : Int) + 1).toNat = 343 + 4 * i := by omega
    have e2 : (342 + 4 * (i : Int) + 2).toNat = 344 + 4 * i := by omega
    have e3 : (342 + 4 * (i : Int) + 3).toNat = 345 + 4 * i := by omega
    refine ab_Md_doBook_10 hY ⟨fun w => by rw [eR] at w; omega, fun _ => ⟨⟨by omega, by omega⟩, ⟨by omega, by omega⟩, by omega, fun h3 x3 => ⟨by omega, ?_⟩⟩⟩
    rw [Int.toNat_natCast] at x3
    have j3 := cj.u x3 (i := 7) rfl (by omega)
    have m3 : mJ h0 h3 m := cm.trans (mJ.u x3 (by omega))
    have r3 : h3 (m + 2) = h0 (m + 2) := m3.1 _ (by omega) (by omega)
    have b3 : jBd (am_u J 7 i 0) (384 * (am_u J 7 i 0) 0 4) := by
      rw [am_u_n _ _ _ _ _ (by omega)]
      refine ⟨fun a ha => ?_, ?_⟩
      · rw [am_u_n _ _ _ _ _ (by omega)]; exact cb.1 a ha
      · rw [am_u_n _ _ _ _ _ (by omega)]; exact cb.2
    have y3 : (am_u J 7 i 0) 0 4 = J 0 4 := am_u_o (by omega)
    rw [r3, e0, e1, e2, e3]
    have eln : lnA (h0 (m + 2)) i = (h0 (m + 2) (342 + 4 * i), h0 (m + 2) (343 + 4 * i), h0 (m + 2) (344 + 4 * i), h0 (m + 2) (345 + 4 * i)) := rfl
    refine ⟨fun w => ⟨by omega, ⟨by omega, by omega⟩, by omega, ⟨by omega, by omega⟩, by omega, ⟨by omega, by omega⟩, by omega, ?_⟩, fun w => ?_⟩
    · have ok2 : 1 ≤ h0 (m + 2) (342 + 4 * i) ∧ h0 (m + 2) (342 + 4 * i) ≤ 4 ∧ 0 ≤ h0 (m + 2) (343 + 4 * i) ∧ h0 (m + 2) (343 + 4 * i) < h0 (m + 2) 1 ∧ 0 ≤ h0 (m + 2) (344 + 4 * i) ∧ h0 (m + 2) (344 + 4 * i) < h0 (m + 2) 1 ∧ h0 (m + 2) (343 + 4 * i) ≠ h0 (m + 2) (344 + 4 * i) ∧ 0 ≤ h0 (m + 2) (345 + 4 * i) ∧ h0 (m + 2) (345 + 4 * i) < h0 (m + 2) 0 := by
        rcases ok with ok | ok
        · exact absurd ok.1 w
        · exact ok
      obtain ⟨o1, o2, o3, o4, o5, o6, o7, o8, o9⟩ := ok2
      refine am_kI.of (ac_m_doLine (d := 0) hY j3 (by rw [r3]; exact hz) ⟨o1, o2⟩ ⟨o3, by omega⟩ ⟨o5, by omega⟩ ⟨o8, by omega⟩ (by rw [y3]; omega) (by rw [r3]; exact hb3)) (by omega) ?_
      rintro x h4 - - ⟨ex, j4, m4⟩
      rw [r3] at ex j4
      have sm := jL_same (h0 (m + 2)) (am_u J 7 i 0) (h0 (m + 2) (342 + 4 * i)) (h0 (m + 2) (343 + 4 * i)) (h0 (m + 2) (344 + 4 * i)) (h0 (m + 2) (345 + 4 * i))
      have eL : jLine (h0 (m + 2)) (lnA (h0 (m + 2)) i) i J = if (jL (h0 (m + 2)) (am_u J 7 i 0) (h0 (m + 2) (342 + 4 * i)) (h0 (m + 2) (343 + 4 * i)) (h0 (m + 2) (344 + 4 * i)) (h0 (m + 2) (345 + 4 * i))).1 = 0 then am_u (jL (h0 (m + 2)) (am_u J 7 i 0) (h0 (m + 2) (342 + 4 * i)) (h0 (m + 2) (343 + 4 * i)) (h0 (m + 2) (344 + 4 * i)) (h0 (m + 2) (345 + 4 * i))).2 7 i (jL (h0 (m + 2)) (am_u J 7 i 0) (h0 (m + 2) (342 + 4 * i)) (h0 (m + 2) (343 + 4 * i)) (h0 (m + 2) (344 + 4 * i)) (h0 (m + 2) (345 + 4 * i))).1 else am_u (am_u (jL (h0 (m + 2)) (am_u J 7 i 0) (h0 (m + 2) (342 + 4 * i)) (h0 (m + 2) (343 + 4 * i)) (h0 (m + 2) (344 + 4 * i)) (h0 (m + 2) (345 + 4 * i))).2 7 i (jL (h0 (m + 2)) (am_u J 7 i 0) (h0 (m + 2) (342 + 4 * i)) (h0 (m + 2) (343 + 4 * i)) (h0 (m + 2) (344 + 4 * i)) (h0 (m + 2) (345 + 4 * i))).1) 0 0 (am_w ((jL (h0 (m + 2)) (am_u J 7 i 0) (h0 (m + 2) (342 + 4 * i)) (h0 (m + 2) (343 + 4 * i)) (h0 (m + 2) (344 + 4 * i)) (h0 (m + 2) (345 + 4 * i))).2 0 0 + 1)) := if_neg w
      generalize jL (h0 (m + 2)) (am_u J 7 i 0) (h0 (m + 2) (342 + 4 * i)) (h0 (m + 2) (343 + 4 * i)) (h0 (m + 2) (344 + 4 * i)) (h0 (m + 2) (345 + 4 * i)) = E at ex j4 sm eL
      obtain ⟨s6, s2, s4, s7⟩ := sm
      have M4 := m3.trans m4
      refine ⟨by omega, fun h6 x6 => ⟨by omega, ?_⟩⟩
      rw [Int.toNat_natCast] at x6
      have j6 := j4.u x6 (i := 7) rfl (by omega)
      have m6 : mJ h0 h6 m := M4.trans (mJ.u x6 (by omega))
      have e16 : h6 (m + 16) (i : Int).toNat = x := by rw [x6, Int.toNat_natCast, am_u_s]
      have e4 : E.2 0 4 = J 0 4 := s4.trans y3
      have bE : jBd E.2 (384 * J 0 4) := by
        refine ⟨fun a ha => ?_, ?_⟩
        · rw [s6, am_u_n _ _ _ _ _ (by omega)]; exact cb.1 a ha
        · rw [s2, am_u_n _ _ _ _ _ (by omega)]; exact cb.2
      have b6 : jBd (am_u E.2 7 i x) (384 * (am_u E.2 7 i x) 0 4) := by
        rw [am_u_n _ _ _ _ _ (by omega), e4]
        refine ⟨fun a ha => ?_, ?_⟩
        · rw [am_u_n _ _ _ _ _ (by omega)]; exact bE.1 a ha
        · rw [am_u_n _ _ _ _ _ (by omega)]; exact bE.2
      have y6 : (am_u E.2 7 i x) 0 4 = J 0 4 := by rw [am_u_n _ _ _ _ _ (by omega)]; exact e4
      rw [e16]
      refine ⟨fun w0 => ⟨⟨by omega, by omega⟩, ih' h6 (am_u E.2 7 i x) ?_ ⟨j6, m6, b6, by omega, by omega⟩⟩, fun w0 h7 x7 => ⟨⟨by omega, by omega⟩, ?_⟩⟩
      · rw [eL, if_pos (by rw [← ex]; exact w0), ex]
      · have e33 : h6 m 33 = E.2 0 0 := by
          have := j6.1 0 (by omega)
          rw [am_u_n _ _ _ _ _ (by omega)] at this
          exact this
        rw [e33] at x7
        have j7 := j6.f x7 (i := 0) rfl
        refine ih' h7 _ ?_ ⟨j7, m6.trans (mJ.f x7 (by omega)), ?_, ?_, ?_⟩
        · rw [eL, if_neg (by rw [← ex]; exact w0), ex]
        · rw [am_u_j (by omega)]
          refine ⟨fun a ha => ?_, ?_⟩
          · rw [am_u_n _ _ _ _ _ (by omega)]; exact b6.1 a ha
          · rw [am_u_j (by omega)]; exact b6.2
        · rw [am_u_j (by omega), y6]; omega
        · rw [am_u_j (by omega), y6]; omega
    · have ok2 : 0 ≤ h0 (m + 2) (343 + 4 * i) ∧ h0 (m + 2) (343 + 4 * i) ≤ 99 := by
        rcases ok with ok | ok
        · exact ⟨ok.2.1, ok.2.2⟩
        · have := ok.1
          rw [eln] at this
          simp only at this
          omega
      refine loopJ46 (d := d + 1) (h0 := h0) (J := am_u J 7 i 0) (y := h0 (m + 2) (343 + 4 * i)) hY hz ⟨by omega, by omega⟩ (by rw [e1]) ok2 (by omega) ?_ 100 h3 (am_u J 7 i 0) (by rw [y3]; omega) rfl ⟨j3, m3, b3, by rw [y3]; omega, by rw [y3]; omega⟩
      intro h1 J1 eJ c1
      refine ih' h1 J1 ?_ c1
      rw [eJ]
      exact (if_pos w).symm
def mD (h h1 : am_H) (m : Nat) : Prop := h1 (m + 2) = lai h m ∧ h1 m 22 = 1 ∧ (∀ q, q ≠ m → q ≠ m + 2 → (q < m + 10 ∨ m + 17 < q) → h1 q = h q) ∧ ∀ j, (j < 33 ∨ 37 < j) → j ≠ 22 → h1 m j = h m j
theorem ac_m_doBook (hY : am_at Y m am_L12) (hb : h m 22 = 0 ∨ h m 22 = 1) (hz : rz (lai h m)) (hb3 : 0 ≤ lai h m 3 ∧ lai h m 3 ≤ 1000) (hl : lnsOK (lai h m)) : am_cV am_Md_doBook (d + 3) Y [.inr (.inr m)] h (fun h1 => jr h1 m (jBook (lai h m) (lnA (lai h m)) (lai h m 341).toNat (jOf h m)) ∧ mD h h1 m ∧ jBd (jBook (lai h m) (lnA (lai h m)) (lai h m 341).toNat (jOf h m)) 40000 ∧ 1 ≤ jBook (lai h m) (lnA (lai h m)) (lai h m 341).toNat (jOf h m) 0 4 ∧ jBook (lai h m) (lnA (lai h m)) (lai h m 341).toNat (jOf h m) 0 4 ≤ 100) := by
  refine am_Met.of (by decide) rfl (Nat.le_of_ble_eq_true rfl) (ab_Md_doBook_0 hY (am_kV.of (ac_m_lay (d := 0) hY hb) (by omega) (fun h1 _ l => ?_)))
  obtain ⟨l1, l2, l3, l4⟩ := l
  refine am_kV.of (ac_m_clearBonds (d := 0) hY) (by omega) (fun h2 _ c => ?_)
  have eO : jOf h1 m = jOf h m := by
    funext i j
    unfold jOf
    split
    · exact l4 _ (by omega)
    · exact congrFun (l3 _ (by omega) (by omega)) j
  rw [eO] at c
  obtain ⟨cj, cm⟩ := c
  have r2 : h2 (m + 2) = lai h m := (cm.1 _ (by omega) (by omega)).trans l1
  rw [← r2]
  have y0 : jClr (jOf h m) 0 4 = 0 := rfl
  refine loopJ10 (d := d) (h0 := h2) (J0 := jClr (jOf h m)) hY (by rw [r2]; exact hz) (by rw [r2]; exact hb3) (by rw [r2]; exact hl) ?_ 0 (by omega) h2 ⟨cj, mJ.refl, ⟨fun a ha => ?_, ?_⟩, ?_, ?_⟩
  · intro h3 J1 eJ c1
    obtain ⟨c1j, c1m, c1b, c10, c199⟩ := c1
    have r3 : h3 (m + 2) = h2 (m + 2) := c1m.1 _ (by omega) (by omega)
    refine am_kV.of (ac_m_endYear (d := 0) hY c1j (by rw [r3, r2]; exact hz) ⟨by omega, by omega⟩ c1b ⟨by omega, by omega⟩) (by omega) (fun h4 _ p => ?_)
    rw [r3] at p
    obtain ⟨p1, p2, p3, p4⟩ := p
    rw [am_qV_s]
    have eB : jBook (h2 (m + 2)) (lnA (h2 (m + 2))) (h2 (m + 2) 341).toNat (jOf h m) = jEnd (h2 (m + 2)) J1 := by
      rw [eJ]
      rfl
    rw [eB]
    have M := (cm.trans c1m).trans p2
    refine ⟨p1, ⟨by rw [p2.1 _ (by omega) (by omega), r3, r2], by rw [M.2 22 (by omega), l2], fun q q0 q2 hq => by rw [M.1 q q0 hq, l3 q q0 q2], fun j hj j22 => by rw [M.2 j hj, l4 j j22]⟩, p3.le (by omega), by omega, by omega⟩
  · show 0 ≤ fil (jOf h m 6) 0 8 a ∧ fil (jOf h m 6) 0 8 a ≤ 384 * jClr (jOf h m) 0 4
    rw [fil_in ha, y0]
    omega
  · exact ⟨Int.le_refl _, Int.le_refl _⟩
  · exact Int.le_refl _
  · show (0 : Int) ≤ 99
    omega
end
