/-! contracts: the reference's year's end -/
theorem am_upN (P : Nat → Prop) (N : Nat) (he : P N) (hs : ∀ i, i < N → P (i + 1) → P i) : ∀ i, i ≤ N → P i := by
  have key : ∀ (n i : Nat), i ≤ N → N - i ≤ n → P i := by
    intro n
    induction n with
    | zero =>
      intro i h1 h2
      have : i = N := by omega
      subst this
      exact he
    | succ n ih =>
      intro i h1 h2
      by_cases hi : i = N
      · subst hi; exact he
      · exact hs i (by omega) (ih (i + 1) (by omega) (by omega))
  exact fun i hi => key _ i hi (Nat.le_refl _)
theorem jBd.le {J : am_H} {B B' : Int} (c : jBd J B) (h : B ≤ B') : jBd J B' := ⟨fun i hi => ⟨(c.1 i hi).1, Int.le_trans (c.1 i hi).2 h⟩, c.2.1, Int.le_trans c.2.2 h⟩
section
variable {d : Nat} {Y : am_Y} {h : am_H} {m : Nat} {J : am_H} {B : Int} {Q : Option am_V → am_H → Prop}
/-- what stands while a year ends -/
def jI (h0 h : am_H) (m : Nat) (J0 J : am_H) (b : Int) : Prop := jr h m J ∧ mJ h0 h m ∧ jBd J b ∧ J 0 4 = J0 0 4
theorem jI.le {h0 h : am_H} {m : Nat} {J0 J : am_H} {b b' : Int} (c : jI h0 h m J0 J b) (hbb : b ≤ b') : jI h0 h m J0 J b' := ⟨c.1, c.2.1, c.2.2.1.le hbb, c.2.2.2⟩
theorem jEnd81 {h0 J0 : am_H} {p q k : Nat} {b s0 : Int} (hY : am_at Y m am_L12) (hp : p < 8) (hq : q < 8) (hk : k < 6) (hb0 : 0 ≤ b ∧ b ≤ 10000000) (c : jI h0 h m J0 J b) (hs : s0 = 0 ↔ ¬ (¬ J 8 (jb p q k) = 0 ∨ J 1 (jb p q k) ≤ J 0 4 ∧ J 0 4 ≤ J 2 (jb p q k)))
    (next : ∀ h1, jI h0 h1 m J0 (jE1 p q k J) (b + 1) → aw_Md_endYear_22 (d + 1) Y m p q ((k : Int) + 1) h1 Q) : aw_Md_endYear_81 (d + 1) Y m p q k (jb p q k : Int) s0 h Q := by
  obtain ⟨cj, cm, cb, cy⟩ := c
  have hjb : jb p q k < 384 := by unfold jb; omega
  have bd := jE1_bd (p := p) (q := q) (k := k) cb
  have b6 := (jE1_b p q k J).2.2 4 (by omega)
  refine ab_Md_endYear_81 hY ⟨⟨by omega, by omega⟩, fun h1 e1 => ⟨fun z => ⟨⟨by omega, by omega⟩, ?_⟩, fun z => ⟨⟨by omega, by omega⟩, ⟨by omega, by omega⟩, ⟨by omega, by omega⟩, hasK (by omega) ?_⟩⟩⟩
  · rw [Int.toNat_natCast] at e1
    have e : jE1 p q k J = am_u J 8 (jb p q k) 0 := by
      unfold jE1
      rw [if_neg (fun w => hs.mp z w.1)]
    refine next h1 ⟨?_, cm.trans (mJ.u e1 (by omega)), bd, b6.trans cy⟩
    rw [e]
    exact cj.u e1 rfl (by omega)
  · rw [Int.toNat_natCast] at e1
    have j1 : jr h1 m (am_u J 8 (jb p q k) 0) := cj.u e1 rfl (by omega)
    have m1 : mJ h0 h1 m := cm.trans (mJ.u e1 (by omega))
    have e12 : h1 (m + 12) = J 3 := by
      have := j1.2 3 (by omega) (by omega)
      rw [am_u_n _ _ _ _ _ (by omega)] at this
      exact this
    have ei : (6 * (q : Int) + (k : Int)).toNat = 6 * q + k := by omega
    rw [e12, ei]
    have hC : ¬ J 8 (jb p q k) = 0 ∨ J 1 (jb p q k) ≤ J 0 4 ∧ J 0 4 ≤ J 2 (jb p q k) := Classical.byContradiction fun w => z (hs.mpr w)
    by_cases hh : hb (J 3 (6 * q + k)) p
    · rw [if_pos hh]
      refine ⟨fun z => absurd z (by decide), fun _ => ⟨⟨by omega, by omega⟩, ?_⟩⟩
      have e : jE1 p q k J = am_u J 8 (jb p q k) 0 := by
        unfold jE1
        rw [if_neg (fun w => w.2 hh)]
      refine next h1 ⟨?_, m1, bd, b6.trans cy⟩
      rw [e]
      exact j1
    · rw [if_neg hh]
      have e15 : h1 (m + 15) p = J 6 p := by
        have := j1.2 6 (by omega) (by omega)
        rw [am_u_n _ _ _ _ _ (by omega)] at this
        exact congrFun this p
      have g6 := cb.1 p hp
      have g2 := cb.2
      refine ⟨fun _ => ⟨⟨by omega, by omega⟩, ?_⟩, fun z => absurd rfl z⟩
      rw [Int.toNat_natCast, e15]
      refine ⟨⟨by omega, by omega⟩, ⟨by omega, by omega⟩, fun h4 e4 => ?_⟩
      have j4 := j1.u e4 (i := 6) rfl (by omega)
      have e35 : h4 m 35 = J 0 2 := by
        have := j4.1 2 (by omega)
        rw [am_u_n _ _ _ _ _ (by omega), am_u_n _ _ _ _ _ (by omega)] at this
        exact this
      rw [e35]
      refine ⟨⟨by omega, by omega⟩, fun h5 e5 => ⟨⟨by omega, by omega⟩, ?_⟩⟩
      have j5 := j4.f e5 (i := 2) rfl
      have e : jE1 p q k J = am_u (am_u (am_u J 8 (jb p q k) 0) 6 p (J 6 p + 1)) 0 2 (J 0 2 + 1) := by
        unfold jE1
        rw [if_pos ⟨hC, hh⟩]
      refine next h5 ⟨?_, (m1.trans (mJ.u e4 (by omega))).trans (mJ.f e5 (by omega)), bd, b6.trans cy⟩
      rw [e]
      exact j5
theorem jEnd22 {h0 J0 Jq : am_H} {p q : Nat} {b : Int} (hY : am_at Y m am_L12) (hz : rz (h0 (m + 2))) (hp : p < 8) (hq : q < 8) (hb0 : 0 ≤ b ∧ b ≤ 9000000)
    (next : ∀ h1, jI h0 h1 m J0 (jE2 (h0 (m + 2)) p q Jq) (b + 6) → aw_Md_endYear_12 (d + 1) Y m p ((q : Int) + 1) h1 Q) :
    ∀ k : Nat, k ≤ (h0 (m + 2) 0).toNat → ∀ h, jI h0 h m J0 (lp (fun k => jE1 p q k) k Jq) (b + k) → aw_Md_endYear_22 (d + 1) Y m p q k h Q := by
  have hz' := hz
  unfold rz at hz'
  refine am_upN _ (h0 (m + 2) 0).toNat ?_ ?_
  · intro h c
    have eR : h (m + 2) = h0 (m + 2) := c.2.1.1 _ (by omega) (by omega)
    refine ab_Md_endYear_22 hY (helpsK hY (by omega) ⟨fun _ => ⟨⟨by omega, by omega⟩, ?_⟩, fun w => by rw [eR] at w; omega⟩)
    exact next h (c.le (by omega))
  · intro k hk ih h c
    have eR : h (m + 2) = h0 (m + 2) := c.2.1.1 _ (by omega) (by omega)
    generalize hJ : lp (fun k => jE1 p q k) k Jq = J at c
    have hjb : jb p q k < 384 := by unfold jb; omega
    have e17 : h (m + 17) = J 8 := c.1.2 8 (by omega) (by omega)
    have e10 : h (m + 10) = J 1 := c.1.2 1 (by omega) (by omega)
    have e11 : h (m + 11) = J 2 := c.1.2 2 (by omega) (by omega)
    have e37 : h m 37 = J 0 4 := c.1.1 4 (by omega)
    have nx : ∀ h1, jI h0 h1 m J0 (jE1 p q k J) (b + k + 1) → aw_Md_endYear_22 (d + 1) Y m p q ((k : Int) + 1) h1 Q := by
      intro h1 c1
      refine ih h1 ?_
      show jI h0 h1 m J0 (jE1 p q k (lp (fun k => jE1 p q k) k Jq)) _
      rw [hJ]
      exact c1.le (by omega)
    have at81 := fun s0 hs => jEnd81 (d := d) (s0 := s0) hY hp hq (by omega : k < 6) (by omega : 0 ≤ b + k ∧ b + k ≤ 10000000) c hs nx
    refine ab_Md_endYear_22 hY (helpsK hY (by omega) ⟨fun w => by rw [eR] at w; omega, fun _ => bondK (by omega) (by omega) (by omega) (by omega) fun _ => ?_⟩)
    rw [Int.toNat_natCast, e17, e10, e11, e37]
    refine ⟨⟨by omega, by omega⟩, fun w => at81 1 ⟨fun z => absurd z (by decide), fun z => absurd (Or.inl w) z⟩, fun w => ⟨⟨by omega, by omega⟩, fun w2 => at81 0 ⟨fun _ z => ?_, fun _ => rfl⟩, fun w2 => ⟨⟨by omega, by omega⟩, fun w3 => at81 0 ⟨fun _ z => ?_, fun _ => rfl⟩, fun w3 => at81 1 ⟨fun z => absurd z (by decide), fun z => absurd (Or.inr ⟨w2, w3⟩) z⟩⟩⟩⟩
    · rcases z with z | z
      · exact z w
      · omega
    · rcases z with z | z
      · exact z w
      · omega
theorem jEnd12 {h0 J0 Jp : am_H} {p : Nat} {b : Int} (hY : am_at Y m am_L12) (hz : rz (h0 (m + 2))) (hp : p < 8) (hb0 : 0 ≤ b ∧ b ≤ 8000000)
    (next : ∀ h1, jI h0 h1 m J0 (jE3 (h0 (m + 2)) p Jp) (b + 48) → aw_Md_endYear_2 (d + 1) Y m ((p : Int) + 1) h1 Q) :
    ∀ q : Nat, q ≤ (h0 (m + 2) 1).toNat → ∀ h, jI h0 h m J0 (lp (jE2 (h0 (m + 2)) p) q Jp) (b + 6 * q) → aw_Md_endYear_12 (d + 1) Y m p q h Q := by
  have hz' := hz
  unfold rz at hz'
  refine am_upN _ (h0 (m + 2) 1).toNat ?_ ?_
  · intro h c
    have eR : h (m + 2) = h0 (m + 2) := c.2.1.1 _ (by omega) (by omega)
    refine ab_Md_endYear_12 hY (persK hY (by omega) ⟨fun _ => ⟨⟨by omega, by omega⟩, ?_⟩, fun w => by rw [eR] at w; omega⟩)
    exact next h (c.le (by omega))
  · intro q hq ih h c
    have eR : h (m + 2) = h0 (m + 2) := c.2.1.1 _ (by omega) (by omega)
    refine ab_Md_endYear_12 hY (persK hY (by omega) ⟨fun w => by rw [eR] at w; omega, fun _ => ?_⟩)
    refine jEnd22 (b := b + 6 * q) hY hz hp (by omega) (by omega) (fun h1 c1 => ih h1 (c1.le (by omega))) 0 (by omega) h (c.le (by omega))
theorem jEnd2 {h0 J0 : am_H} (hY : am_at Y m am_L12) (hz : rz (h0 (m + 2))) (hB : 0 ≤ B ∧ B ≤ 7000000)
    (next : ∀ h1, jI h0 h1 m J0 (jE4 (h0 (m + 2)) J0) (B + 384) → aw_Md_endYear_157 (d + 1) Y m 0 h1 Q) :
    ∀ p : Nat, p ≤ (h0 (m + 2) 1).toNat → ∀ h, jI h0 h m J0 (lp (jE3 (h0 (m + 2))) p J0) (B + 48 * p) → aw_Md_endYear_2 (d + 1) Y m p h Q := by
  have hz' := hz
  unfold rz at hz'
  refine am_upN _ (h0 (m + 2) 1).toNat ?_ ?_
  · intro h c
    have eR : h (m + 2) = h0 (m + 2) := c.2.1.1 _ (by omega) (by omega)
    refine ab_Md_endYear_2 hY (persK hY (by omega) ⟨fun _ => ?_, fun w => by rw [eR] at w; omega⟩)
    exact next h (c.le (by omega))
  · intro p hp ih h c
    have eR : h (m + 2) = h0 (m + 2) := c.2.1.1 _ (by omega) (by omega)
    refine ab_Md_endYear_2 hY (persK hY (by omega) ⟨fun w => by rw [eR] at w; omega, fun _ => ?_⟩)
    refine jEnd12 (b := B + 48 * p) hY hz (by omega) (by omega) (fun h1 c1 => ih h1 (c1.le (by omega))) 0 (by omega) h (c.le (by omega))
theorem jE5_s (i : Nat) (J : am_H) : lp (fun i J => am_u J 3 i 0) (i + 1) J = am_u (lp (fun i J => am_u J 3 i 0) i J) 3 i 0 := rfl
theorem jE5_0 (n : Nat) (J : am_H) : ∀ i, i ≠ 3 → lp (fun i J => am_u J 3 i 0) n J i = J i := by
  intro i hi
  induction n with
  | zero => rfl
  | succ n ih =>
    rw [jE5_s, am_u_n _ _ _ _ _ hi]
    exact ih
theorem ac_m_endYear (hY : am_at Y m am_L12) (hj : jr h m J) (hz : rz (h (m + 2))) (hB : 0 ≤ B ∧ B ≤ 7000000) (hbd : jBd J B) (hy : 0 ≤ J 0 4 ∧ J 0 4 ≤ 1000) : am_cV am_Md_endYear (d + 1) Y [.inr (.inr m)] h (fun h1 => jr h1 m (jEnd (h (m + 2)) J) ∧ mJ h h1 m ∧ jBd (jEnd (h (m + 2)) J) (B + 384) ∧ jEnd (h (m + 2)) J 0 4 = J 0 4 + 1) := by
  refine am_Met.of (by decide) rfl (Nat.le_of_ble_eq_true rfl) (ab_Md_endYear_0 hY ?_)
  refine jEnd2 (h0 := h) (J0 := J) hY hz hB ?_ 0 (by omega) h ⟨hj, mJ.refl, hbd.le (by omega), rfl⟩
  intro h1 c1
  generalize hJ4 : jE4 (h (m + 2)) J = J4 at c1
  have key : ∀ i : Nat, i ≤ 48 → ∀ h2, jr h2 m (lp (fun i J => am_u J 3 i 0) i J4) → mJ h h2 m → aw_Md_endYear_157 (d + 1) Y m i h2 (am_qV (fun h1 => jr h1 m (jEnd (h (m + 2)) J) ∧ mJ h h1 m ∧ jBd (jEnd (h (m + 2)) J) (B + 384) ∧ jEnd (h (m + 2)) J 0 4 = J 0 4 + 1)) := by
    refine am_upN _ 48 ?_ ?_
    · intro h2 j2 m2
      have e37 : h2 m 37 = J 0 4 := by
        have := j2.1 4 (by omega)
        rw [jE5_0 48 J4 0 (by omega), c1.2.2.2] at this
        exact this
      have eE : jEnd (h (m + 2)) J = am_u (lp (fun i J => am_u J 3 i 0) 48 J4) 0 4 (J 0 4 + 1) := by
        unfold jEnd jE5
        rw [hJ4, jE5_0 48 J4 0 (by omega), c1.2.2.2]
      refine ab_Md_endYear_157 hY ⟨fun _ => ?_, fun w => by omega⟩
      rw [e37]
      refine ⟨⟨by omega, by omega⟩, fun h3 e3 => ?_⟩
      rw [am_qV_s, eE]
      refine ⟨j2.f e3 rfl, m2.trans (mJ.f e3 (by omega)), ⟨fun i hi => ?_, ?_⟩, am_u_s _ _ _ _⟩
      · rw [am_u_n _ _ _ _ _ (by omega), jE5_0 48 J4 6 (by omega)]
        exact c1.2.2.1.1 i hi
      · rw [am_u_j (by omega), jE5_0 48 J4 0 (by omega)]
        exact c1.2.2.1.2
    · intro i hi ih h2 j2 m2
      refine ab_Md_endYear_157 hY ⟨fun w => by omega, fun _ => ⟨⟨by omega, by omega⟩, fun h3 e3 => ⟨⟨by omega, by omega⟩, ?_⟩⟩⟩
      rw [Int.toNat_natCast] at e3
      exact ih h3 (j2.u e3 (i := 3) rfl (by omega)) (m2.trans (mJ.u e3 (by omega)))
  exact key 0 (by omega) h1 c1.1 c1.2.1
end
