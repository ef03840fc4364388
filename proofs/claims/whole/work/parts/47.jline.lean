/-! a book, judged: pure lines; contracts: the reference's line -/
def jHelp (R : Nat → Int) (J : am_H) (g p q k : Int) : am_H :=
  let J1 := am_u J 3 (6 * q + k).toNat (am_shl 1 p)
  let J2 := am_u J1 5 p.toNat (am_w (J1 5 p.toNat + 1))
  let J3 := am_u J2 4 p.toNat (am_w (J2 4 p.toNat - am_w (R (35 + 6 * p + k).toNat + g)))
  am_u J3 4 q.toNat (am_w (J3 4 q.toNat + R (10 + 2 * k).toNat))
def jThk2 (R : Nat → Int) (J : am_H) (s : Int) (b : Nat) (q : Int) : am_H := am_u (am_u (am_u (am_u J 8 b s) 1 b (J 0 4 + 1)) 2 b (J 0 4 + R 3)) 0 3 (am_or (J 0 3) (am_shl 1 q))
def jAst (J : am_H) (of : Nat) (q : Int) : am_H := if hb (J 3 of) q then J else am_u J 0 1 (am_w (J 0 1 + 1))
def jDu (J : am_H) (b : Nat) : Int := if ¬ J 8 b = 0 ∨ J 1 b ≤ J 0 4 ∧ J 0 4 ≤ J 2 b then 1 else 0
def jThk (R : Nat → Int) (J : am_H) (p q k : Int) : am_H := jThk2 R (jAst J (6 * p + k).toNat q) (jDu (jAst J (6 * p + k).toNat q) (jb q p k)) (jb q p k) q
def jLv (R : Nat → Int) (J : am_H) (p q k : Int) : am_H :=
  let J1 := am_u J 2 (jb p q k) (-1)
  let J2 := am_u J1 1 (jb p q k) 0
  let J3 := am_u J2 8 (jb p q k) 0
  am_u J3 4 p.toNat (am_w (J3 4 p.toNat - R 4))
def jL (R : Nat → Int) (J : am_H) (w p q k : Int) : Int × am_H :=
  if w < 3 then (if R (35 + 6 * p + k).toNat = 0 then (1, J) else if ¬ hb (R (85 + q).toNat) k then (2, J) else if ¬ J 3 (6 * q + k).toNat = 0 then (3, J) else (0, jHelp R J (if w = 2 then R (11 + 2 * k).toNat else 0) p q k))
  else if w = 3 then (if J 3 (6 * p + k).toNat = 0 then (4, J) else if R (35 + 6 * q + k).toNat = 0 then (5, J) else if J 2 (jb q p k) < J 0 4 ∧ R (25 + q).toNat ≤ jCnt R J q (J 0 4) then (7, J) else (0, jThk R J p q k))
  else (if J 2 (jb p q k) < J 0 4 then (6, J) else (0, jLv R J p q k))
section
variable {d : Nat} {Y : am_Y} {h : am_H} {m : Nat} {J : am_H} {B : Int} {Q : Option am_V → am_H → Prop}
/-- what a line leaves -/
def jO (h : am_H) (m : Nat) (e : Int × am_H) (x : Int) (h1 : am_H) : Prop := x = e.1 ∧ jr h1 m e.2 ∧ mJ h h1 m
theorem painsK {p k : Int} {K : Int → am_H → Prop} (hY : am_at Y m am_L12) (hp : 0 ≤ p ∧ p < 8) (hk : 0 ≤ k ∧ k < 6) (hd : 0 < d) (hK : K (h (m + 2) (35 + 6 * p + k).toNat) h) : am_kI am_Md_pains d Y [.inr (.inr m), .inl p, .inl k] h K :=
  am_kI.of (ac_m_pains (d := 0) hY hp hk) hd (by rintro x h1 - - ⟨rfl, rfl⟩; exact hK)
theorem worthK {k : Int} {K : Int → am_H → Prop} (hY : am_at Y m am_L12) (hk : 0 ≤ k ∧ k < 6) (hd : 0 < d) (hK : K (h (m + 2) (10 + 2 * k).toNat) h) : am_kI am_Md_worth d Y [.inr (.inr m), .inl k] h K :=
  am_kI.of (ac_m_worth (d := 0) hY hk) hd (by rintro x h1 - - ⟨rfl, rfl⟩; exact hK)
theorem hideK {k : Int} {K : Int → am_H → Prop} (hY : am_at Y m am_L12) (hk : 0 ≤ k ∧ k < 6) (hd : 0 < d) (hK : K (h (m + 2) (11 + 2 * k).toNat) h) : am_kI am_Md_hide d Y [.inr (.inr m), .inl k] h K :=
  am_kI.of (ac_m_hide (d := 0) hY hk) hd (by rintro x h1 - - ⟨rfl, rfl⟩; exact hK)
theorem bondsK {p y : Int} {K : Int → am_H → Prop} (hY : am_at Y m am_L12) (hj : jr h m J) (hz : rz (h (m + 2))) (hp : 0 ≤ p ∧ p < 8) (hd : 1 < d) (hK : K (jCnt (h (m + 2)) J p y) h) : am_kI am_Md_bondsOf d Y [.inr (.inr m), .inl p, .inl y] h K :=
  am_kI.of (ac_m_bondsOf (d := 0) hY hj hz hp) hd (by rintro x h1 - - ⟨rfl, rfl⟩; exact hK)
theorem line280 {b : Nat} {q : Int} (hY : am_at Y m am_L12) (hj : jr h m J) (hb : b < 384) (hy : 0 ≤ J 0 4 ∧ J 0 4 ≤ 1000) (hbi : 0 ≤ h (m + 2) 3 ∧ h (m + 2) 3 ≤ 1000) (next : ∀ h1, jr h1 m (jThk2 (h (m + 2)) J 1 b q) → mJ h h1 m → Q (some (.inl 0)) h1) : aw_Md_doLine_280 d Y m q (b : Int) (b : Int) h Q := by
  have e37 : ∀ h1 J1, jr h1 m J1 → h1 m 37 = J1 0 4 := fun h1 J1 c => c.1 4 (by omega)
  refine ab_Md_doLine_280 hY ⟨⟨by omega, by omega⟩, fun h1 e1 => ?_⟩
  rw [Int.toNat_natCast] at e1
  have j1 := hj.u e1 (i := 8) rfl (by omega)
  have y1 : h1 m 37 = J 0 4 := by
    rw [e37 h1 _ j1]
    exact am_u_o (by omega)
  rw [y1]
  refine ⟨⟨by omega, by omega⟩, ⟨by omega, by omega⟩, fun h2 e2 => ?_⟩
  rw [Int.toNat_natCast] at e2
  have j2 := j1.u e2 (i := 1) rfl (by omega)
  have y2 : h2 m 37 = J 0 4 := by
    rw [e37 h2 _ j2, am_u_o (by omega)]
    exact am_u_o (by omega)
  have m2 : mJ h h2 m := (mJ.u e1 (by omega)).trans (mJ.u e2 (by omega))
  have r2 : h2 (m + 2) = h (m + 2) := m2.1 _ (by omega) (by omega)
  rw [y2, r2]
  refine ⟨⟨by omega, by omega⟩, ⟨by omega, by omega⟩, fun h3 e3 h4 e4 => ?_⟩
  rw [Int.toNat_natCast] at e3
  have j3 := j2.u e3 (i := 2) rfl (by omega)
  have y3 : h3 m 36 = J 0 3 := by
    have := j3.1 3 (by omega)
    rw [am_u_o (by omega), am_u_o (by omega), am_u_o (by omega)] at this
    exact this
  rw [y3] at e4
  exact next h4 (j3.f e4 (i := 3) rfl) ((m2.trans (mJ.u e3 (by omega))).trans (mJ.f e4 (by omega)))
theorem line284 {b : Nat} {q : Int} (hY : am_at Y m am_L12) (hj : jr h m J) (hb : b < 384) (hy : 0 ≤ J 0 4 ∧ J 0 4 ≤ 1000) (hbi : 0 ≤ h (m + 2) 3 ∧ h (m + 2) 3 ≤ 1000) (next : ∀ h1, jr h1 m (jThk2 (h (m + 2)) J 0 b q) → mJ h h1 m → Q (some (.inl 0)) h1) : aw_Md_doLine_284 d Y m q (b : Int) (b : Int) h Q := by
  have e37 : ∀ h1 J1, jr h1 m J1 → h1 m 37 = J1 0 4 := fun h1 J1 c => c.1 4 (by omega)
  refine ab_Md_doLine_284 hY ⟨⟨by omega, by omega⟩, fun h1 e1 => ?_⟩
  rw [Int.toNat_natCast] at e1
  have j1 := hj.u e1 (i := 8) rfl (by omega)
  have y1 : h1 m 37 = J 0 4 := by
    rw [e37 h1 _ j1]
    exact am_u_o (by omega)
  rw [y1]
  refine ⟨⟨by omega, by omega⟩, ⟨by omega, by omega⟩, fun h2 e2 => ?_⟩
  rw [Int.toNat_natCast] at e2
  have j2 := j1.u e2 (i := 1) rfl (by omega)
  have y2 : h2 m 37 = J 0 4 := by
    rw [e37 h2 _ j2, am_u_o (by omega)]
    exact am_u_o (by omega)
  have m2 : mJ h h2 m := (mJ.u e1 (by omega)).trans (mJ.u e2 (by omega))
  have r2 : h2 (m + 2) = h (m + 2) := m2.1 _ (by omega) (by omega)
  rw [y2, r2]
  refine ⟨⟨by omega, by omega⟩, ⟨by omega, by omega⟩, fun h3 e3 h4 e4 => ?_⟩
  rw [Int.toNat_natCast] at e3
  have j3 := j2.u e3 (i := 2) rfl (by omega)
  have y3 : h3 m 36 = J 0 3 := by
    have := j3.1 3 (by omega)
    rw [am_u_o (by omega), am_u_o (by omega), am_u_o (by omega)] at this
    exact this
  rw [y3] at e4
  exact next h4 (j3.f e4 (i := 3) rfl) ((m2.trans (mJ.u e3 (by omega))).trans (mJ.f e4 (by omega)))
/-- behind astray -/
theorem lineDue {b : Nat} {q : Int} (hY : am_at Y m am_L12) (hj : jr h m J) (hb : b < 384) (hy : 0 ≤ J 0 4 ∧ J 0 4 ≤ 1000) (hbi : 0 ≤ h (m + 2) 3 ∧ h (m + 2) 3 ≤ 1000) (next : ∀ h1, jr h1 m (jThk2 (h (m + 2)) J (jDu J b) b q) → mJ h h1 m → Q (some (.inl 0)) h1) :
    (¬ h (m + 17) (b : Int).toNat = 0 → aw_Md_doLine_280 d Y m q (b : Int) (b : Int) h Q) ∧ (h (m + 17) (b : Int).toNat = 0 → ((0 : Int) ≤ (b : Int) ∧ (b : Int) < 384) ∧ ((h m 37 < h (m + 10) (b : Int).toNat → aw_Md_doLine_284 d Y m q (b : Int) (b : Int) h Q) ∧ (h (m + 10) (b : Int).toNat ≤ h m 37 → ((0 : Int) ≤ (b : Int) ∧ (b : Int) < 384) ∧ ((h (m + 11) (b : Int).toNat < h m 37 → aw_Md_doLine_284 d Y m q (b : Int) (b : Int) h Q) ∧ (h m 37 ≤ h (m + 11) (b : Int).toNat → aw_Md_doLine_280 d Y m q (b : Int) (b : Int) h Q))))) := by
  have e17 : h (m + 17) = J 8 := hj.2 8 (by omega) (by omega)
  have e10 : h (m + 10) = J 1 := hj.2 1 (by omega) (by omega)
  have e11 : h (m + 11) = J 2 := hj.2 2 (by omega) (by omega)
  have e37 : h m 37 = J 0 4 := hj.1 4 (by omega)
  rw [Int.toNat_natCast, e17, e10, e11, e37]
  unfold jDu at next
  refine ⟨fun w => line280 hY hj hb hy hbi ?_, fun w => ⟨by omega, fun w2 => line284 hY hj hb hy hbi ?_, fun w2 => ⟨by omega, fun w3 => line284 hY hj hb hy hbi ?_, fun w3 => line280 hY hj hb hy hbi ?_⟩⟩⟩
  · rw [if_pos (Or.inl w)] at next
    exact next
  · rw [if_neg (fun z => by rcases z with z | z; exact z w; omega)] at next
    exact next
  · rw [if_neg (fun z => by rcases z with z | z; exact z w; omega)] at next
    exact next
  · rw [if_pos (Or.inr ⟨w2, w3⟩)] at next
    exact next
theorem line207 {p q k : Int} (hY : am_at Y m am_L12) (hj : jr h m J) (hp : 0 ≤ p ∧ p < 8) (hq : 0 ≤ q ∧ q < 8) (hk : 0 ≤ k ∧ k < 6) (hy : 0 ≤ J 0 4 ∧ J 0 4 ≤ 1000) (hbi : 0 ≤ h (m + 2) 3 ∧ h (m + 2) 3 ≤ 1000) (next : ∀ h1, jr h1 m (jThk (h (m + 2)) J p q k) → mJ h h1 m → Q (some (.inl 0)) h1) : aw_Md_doLine_207 (d + 1) Y m p q k (jb q p k : Int) h Q := by
  have hbd : jb q p k < 384 := by unfold jb; omega
  have e12 : h (m + 12) = J 3 := hj.2 3 (by omega) (by omega)
  refine ab_Md_doLine_207 hY ⟨⟨by omega, by omega⟩, ⟨by omega, by omega⟩, ⟨by omega, by omega⟩, ?_⟩
  rw [e12]
  refine hasK (by omega) ?_
  unfold jThk jAst at next
  by_cases c : hb (J 3 (6 * p + k).toNat) q
  · rw [if_pos c] at next ⊢
    exact ⟨fun _ => ⟨by omega, lineDue hY hj hbd hy hbi next⟩, fun z => absurd z (by decide)⟩
  · rw [if_neg c] at next ⊢
    refine ⟨fun z => absurd rfl z, fun _ h6 e6 => ⟨by omega, ?_⟩⟩
    have e34 : h m 34 = J 0 1 := hj.1 1 (by omega)
    rw [e34] at e6
    have m6 : mJ h h6 m := mJ.f e6 (by omega)
    have r6 : h6 (m + 2) = h (m + 2) := m6.1 _ (by omega) (by omega)
    refine lineDue hY (hj.f e6 (i := 1) rfl) hbd (by rw [am_u_j (by omega)]; exact hy) (by rw [r6]; exact hbi) ?_
    rw [r6]
    intro h1 j1 m1
    exact next h1 j1 (m6.trans m1)
theorem ac_m_doLine {w p q k : Int} (hY : am_at Y m am_L12) (hj : jr h m J) (hz : rz (h (m + 2))) (hw : 1 ≤ w ∧ w ≤ 4) (hp : 0 ≤ p ∧ p < 8) (hq : 0 ≤ q ∧ q < 8) (hk : 0 ≤ k ∧ k < 6) (hy : 0 ≤ J 0 4 ∧ J 0 4 ≤ 1000) (hbi : 0 ≤ h (m + 2) 3 ∧ h (m + 2) 3 ≤ 1000) : am_cI am_Md_doLine (d + 2) Y [.inr (.inr m), .inl w, .inl p, .inl q, .inl k] h (jO h m (jL (h (m + 2)) J w p q k)) := by
  have e12 : h (m + 12) = J 3 := hj.2 3 (by omega) (by omega)
  have e11 : h (m + 11) = J 2 := hj.2 2 (by omega) (by omega)
  have e37 : h m 37 = J 0 4 := hj.1 4 (by omega)
  refine am_Met.of (by decide) rfl (Nat.le_of_ble_eq_true rfl) (ab_Md_doLine_0 hY ⟨⟨by omega, by omega⟩, ⟨by omega, by omega⟩, fun c3 => ⟨fun c4 => ?_, fun c4 => ?_⟩, fun c3 => ?_⟩)
  · refine bondK hp hq hk (by omega) fun hb => ?_
    have eL : jL (h (m + 2)) J w p q k = if J 2 (jb p q k) < J 0 4 then (6, J) else (0, jLv (h (m + 2)) J p q k) := by
      unfold jL
      rw [if_neg (by omega), if_neg c4]
    rw [Int.toNat_natCast, e11, e37]
    refine ⟨by omega, fun c => ⟨by omega, fun h3 e3 => ⟨by omega, fun h4 e4 => ⟨by omega, fun h5 e5 => ⟨by omega, by omega, fun h6 e6 => ?_⟩⟩⟩⟩, fun c => ?_⟩
    · have j3 := hj.u e3 (i := 2) rfl (by omega)
      have j4 := j3.u e4 (i := 1) rfl (by omega)
      have j5 := j4.u e5 (i := 8) rfl (by omega)
      have m5 : mJ h h5 m := ((mJ.u e3 (by omega)).trans (mJ.u e4 (by omega))).trans (mJ.u e5 (by omega))
      have e13 : h5 (m + 13) = (am_u (am_u (am_u J 2 (jb p q k) (-1)) 1 (jb p q k) 0) 8 (jb p q k) 0) 4 := j5.2 4 (by omega) (by omega)
      have r5 : h5 (m + 2) = h (m + 2) := m5.1 _ (by omega) (by omega)
      rw [e13, r5] at e6
      rw [am_qI_s, eL, if_neg (by omega)]
      exact ⟨rfl, j5.u e6 (i := 4) rfl (by omega), m5.trans (mJ.u e6 (by omega))⟩
    · rw [am_qI_s, eL, if_pos c]
      exact ⟨rfl, hj, mJ.refl⟩
  · have eL : jL (h (m + 2)) J w p q k = if J 3 (6 * p + k).toNat = 0 then (4, J) else if h (m + 2) (35 + 6 * q + k).toNat = 0 then (5, J) else if J 2 (jb q p k) < J 0 4 ∧ h (m + 2) (25 + q).toNat ≤ jCnt (h (m + 2)) J q (J 0 4) then (7, J) else (0, jThk (h (m + 2)) J p q k) := by
      unfold jL
      rw [if_neg (by omega), if_pos c4]
    rw [e12]
    refine ⟨⟨by omega, by omega⟩, ⟨by omega, by omega⟩, ⟨by omega, by omega⟩, fun c5 => painsK hY hq hk (by omega) ⟨fun c6 => bondK hq hp hk (by omega) fun hb => ?_, fun c6 => ?_⟩, fun c5 => ?_⟩
    · rw [Int.toNat_natCast, e11, e37]
      refine ⟨by omega, fun c7 => ?_, fun c7 => bondsK hY hj hz hq (by omega) ⟨⟨by omega, by omega⟩, by omega, fun c8 => ?_, fun c8 => ?_⟩⟩
      · refine line207 (d := d + 1) hY hj hp hq hk hy hbi ?_
        intro h1 j1 m1
        rw [am_qI_s, eL, if_neg c5, if_neg c6, if_neg (fun z => by omega)]
        exact ⟨rfl, j1, m1⟩
      · refine line207 (d := d + 1) hY hj hp hq hk hy hbi ?_
        intro h1 j1 m1
        rw [am_qI_s, eL, if_neg c5, if_neg c6, if_neg (fun z => by omega)]
        exact ⟨rfl, j1, m1⟩
      · rw [am_qI_s, eL, if_neg c5, if_neg c6, if_pos ⟨c7, c8⟩]
        exact ⟨rfl, hj, mJ.refl⟩
    · rw [am_qI_s, eL, if_neg c5, if_pos c6]
      exact ⟨rfl, hj, mJ.refl⟩
    · rw [am_qI_s, eL, if_pos c5]
      exact ⟨rfl, hj, mJ.refl⟩
  · have eL : jL (h (m + 2)) J w p q k = if h (m + 2) (35 + 6 * p + k).toNat = 0 then (1, J) else if ¬ hb (h (m + 2) (85 + q).toNat) k then (2, J) else if ¬ J 3 (6 * q + k).toNat = 0 then (3, J) else (0, jHelp (h (m + 2)) J (if w = 2 then h (m + 2) (11 + 2 * k).toNat else 0) p q k) := by
      unfold jL
      rw [if_pos c3]
    refine painsK hY hp hk (by omega) ⟨fun c4 => ⟨⟨by omega, by omega⟩, by omega, hasK (by omega) ?_⟩, fun c4 => ?_⟩
    · by_cases c5 : hb (h (m + 2) (85 + q).toNat) k
      · rw [if_pos c5, e12]
        refine ⟨fun _ => ⟨by omega, fun c6 => ⟨by omega, fun h1 e1 => ⟨by omega, by omega, fun h2 e2 => ⟨by omega, painsK hY hp hk (by omega) ?_⟩⟩⟩, fun c6 => ?_⟩, fun z => absurd z (by decide)⟩
        · have j1 := hj.u e1 (i := 3) rfl (by omega)
          have e14 : h1 (m + 14) = (am_u J 3 (6 * q + k).toNat (am_shl 1 p)) 5 := j1.2 5 (by omega) (by omega)
          rw [e14] at e2
          have j2 := j1.u e2 (i := 5) rfl (by omega)
          have m2 : mJ h h2 m := (mJ.u e1 (by omega)).trans (mJ.u e2 (by omega))
          have r2 : h2 (m + 2) = h (m + 2) := m2.1 _ (by omega) (by omega)
          have e13 : h2 (m + 13) = _ := j2.2 4 (by omega) (by omega)
          rw [r2, e13]
          -- the end, for both ways
          have fin : ∀ (g : Int) (h3 : am_H), h3 = am_u h2 (m + 13) p.toNat (am_w ((am_u (am_u J 3 (6 * q + k).toNat (am_shl 1 p)) 5 p.toNat (am_w ((am_u J 3 (6 * q + k).toNat (am_shl 1 p)) 5 p.toNat + 1))) 4 p.toNat - am_w (h (m + 2) (35 + 6 * p + k).toNat + g))) → g = (if w = 2 then h (m + 2) (11 + 2 * k).toNat else 0) → am_kI am_Md_worth (d + 2) Y [.inr (.inr m), .inl k] h3 (fun v33 h32 => ((0 : Int) ≤ q ∧ q < 8) ∧ (∀ h34 : am_H, h34 = am_u h32 (m + 13) q.toNat (am_w ((h3 (m + 13) q.toNat) + v33)) → am_qI (jO h m (jL (h (m + 2)) J w p q k)) (some (.inl 0)) h34)) := by
            intro g h3 e3 eg
            have j3 := j2.u e3 (i := 4) rfl (by omega)
            have m3 : mJ h h3 m := m2.trans (mJ.u e3 (by omega))
            have r3 : h3 (m + 2) = h (m + 2) := m3.1 _ (by omega) (by omega)
            refine worthK hY hk (by omega) ⟨hq, fun h4 e4 => ?_⟩
            have e13' : h3 (m + 13) = _ := j3.2 4 (by omega) (by omega)
            rw [e13', r3] at e4
            rw [am_qI_s, eL, if_neg c4, if_neg (fun z => z c5), if_neg (fun z => z c6), ← eg]
            exact ⟨rfl, j3.u e4 (i := 4) rfl (by omega), m3.trans (mJ.u e4 (by omega))⟩
          refine ⟨fun c7 => ⟨hp, fun h3 e3 => ⟨hq, fin 0 h3 e3 (by rw [if_neg c7])⟩⟩, fun c7 => hideK hY hk (by omega) ?_⟩
          rw [r2]
          exact ⟨hp, fun h3 e3 => ⟨hq, fin _ h3 e3 (by rw [if_pos c7])⟩⟩
        · rw [am_qI_s, eL, if_neg c4, if_neg (fun z => z c5), if_pos c6]
          exact ⟨rfl, hj, mJ.refl⟩
      · rw [if_neg c5]
        refine ⟨fun z => absurd rfl z, fun _ => ?_⟩
        rw [am_qI_s, eL, if_neg c4, if_pos c5]
        exact ⟨rfl, hj, mJ.refl⟩
    · rw [am_qI_s, eL, if_pos c4]
      exact ⟨rfl, hj, mJ.refl⟩
end
