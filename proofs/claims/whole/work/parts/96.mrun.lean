/-! the reference's run: leaves, offers -/
def mrR (g : am_H) (m : Nat) (A : Nat → Int) (Z : am_H) : Prop := g (m + 2) = A ∧ g (m + 20) = Z 0 ∧ g (m + 21) = Z 1 ∧ g (m + 10) = Z 2 ∧ g (m + 11) = Z 3 ∧ g m 40 = Z 4 0
def mrF (g g1 : am_H) (m : Nat) : Prop := (∀ q, q ≠ m → q ≠ m + 10 → q ≠ m + 11 → q ≠ m + 18 → q ≠ m + 19 → q ≠ m + 20 → q ≠ m + 21 → g1 q = g q) ∧ ∀ j, j ≠ 40 → j ≠ 45 → j ≠ 46 → g1 m j = g m j
section
variable {g g1 g2 : am_H} {m j q : Nat} {A : Nat → Int} {Z : am_H} {v : Int}
theorem mrF.refl : mrF g g m := ⟨fun _ _ _ _ _ _ _ _ => rfl, fun _ _ _ _ => rfl⟩
theorem mrF.trans (a : mrF g g1 m) (b : mrF g1 g2 m) : mrF g g2 m := ⟨fun q a1 a2 a3 a4 a5 a6 a7 => (b.1 q a1 a2 a3 a4 a5 a6 a7).trans (a.1 q a1 a2 a3 a4 a5 a6 a7), fun j a1 a2 a3 => (b.2 j a1 a2 a3).trans (a.2 j a1 a2 a3)⟩
theorem mrF.u (e : g1 = am_u g q j v) (h : q = m + 10 ∨ q = m + 11 ∨ q = m + 20 ∨ q = m + 21 ∨ q = m ∧ (j = 40 ∨ j = 45 ∨ j = 46)) : mrF g g1 m := by
  refine ⟨fun r a1 a2 a3 a4 a5 a6 a7 => by rw [e, am_u_n _ _ _ _ _ (by omega)], fun i a1 a2 a3 => ?_⟩
  by_cases z : q = m
  · rw [e, z, am_u_j (by omega)]
  · rw [e, am_u_o (fun w => z w.symm)]
theorem mrR.but (c : mrR g m A Z) (f : ∀ q, q ≠ m + 18 → q ≠ m + 19 → g1 q = g q) : mrR g1 m A Z := by
  unfold mrR
  rw [f _ (by omega) (by omega), f _ (by omega) (by omega), f _ (by omega) (by omega), f _ (by omega) (by omega), f _ (by omega) (by omega), f m (by omega) (by omega)]
  exact c
theorem mrF.but (f : ∀ q, q ≠ m + 18 → q ≠ m + 19 → g1 q = g q) : mrF g g1 m := ⟨fun q _ _ _ a b _ _ => f q a b, fun j _ _ _ => by rw [f m (by omega) (by omega)]⟩
theorem mrR.cell (c : mrR g m A Z) (e : g1 = am_u g m j v) (hj : j ≠ 40) : mrR g1 m A Z := by
  have n : ∀ q, q ≠ m → g1 q = g q := fun q hq => by rw [e, am_u_n _ _ _ _ _ hq]
  unfold mrR
  rw [n _ (by omega), n _ (by omega), n _ (by omega), n _ (by omega), n _ (by omega), e, am_u_j (by omega)]
  exact c
theorem mrR.s40 (c : mrR g m A Z) (e : g1 = am_u g m 40 v) : mrR g1 m A (am_u Z 4 0 v) := by
  have n : ∀ q, q ≠ m → g1 q = g q := fun q hq => by rw [e, am_u_n _ _ _ _ _ hq]
  unfold mrR
  rw [n _ (by omega), n _ (by omega), n _ (by omega), n _ (by omega), n _ (by omega), e, am_u_s, am_u_n _ _ _ _ 0 (by omega), am_u_n _ _ _ _ 1 (by omega), am_u_n _ _ _ _ 2 (by omega), am_u_n _ _ _ _ 3 (by omega), am_u_s]
  exact ⟨c.1, c.2.1, c.2.2.1, c.2.2.2.1, c.2.2.2.2.1, rfl⟩
theorem mrR.u20 (c : mrR g m A Z) (e : g1 = am_u g (m + 20) j v) : mrR g1 m A (am_u Z 0 j v) := by
  have n : ∀ q, q ≠ m + 20 → g1 q = g q := fun q hq => by rw [e, am_u_n _ _ _ _ _ hq]
  unfold mrR
  rw [n (m + 2) (by omega), n (m + 21) (by omega), n (m + 10) (by omega), n (m + 11) (by omega), n m (by omega), e, am_u_up, am_u_up, am_u_n _ _ _ _ 1 (by omega), am_u_n _ _ _ _ 2 (by omega), am_u_n _ _ _ _ 3 (by omega), am_u_n _ _ _ _ 4 (by omega), c.2.1]
  exact ⟨c.1, rfl, c.2.2.1, c.2.2.2.1, c.2.2.2.2.1, c.2.2.2.2.2⟩
theorem mrR.u21 (c : mrR g m A Z) (e : g1 = am_u g (m + 21) j v) : mrR g1 m A (am_u Z 1 j v) := by
  have n : ∀ q, q ≠ m + 21 → g1 q = g q := fun q hq => by rw [e, am_u_n _ _ _ _ _ hq]
  unfold mrR
  rw [n (m + 2) (by omega), n (m + 20) (by omega), n (m + 10) (by omega), n (m + 11) (by omega), n m (by omega), e, am_u_up, am_u_up, am_u_n _ _ _ _ 0 (by omega), am_u_n _ _ _ _ 2 (by omega), am_u_n _ _ _ _ 3 (by omega), am_u_n _ _ _ _ 4 (by omega), c.2.2.1]
  exact ⟨c.1, c.2.1, rfl, c.2.2.2.1, c.2.2.2.2.1, c.2.2.2.2.2⟩
theorem mrR.u10 (c : mrR g m A Z) (e : g1 = am_u g (m + 10) j v) : mrR g1 m A (am_u Z 2 j v) := by
  have n : ∀ q, q ≠ m + 10 → g1 q = g q := fun q hq => by rw [e, am_u_n _ _ _ _ _ hq]
  unfold mrR
  rw [n (m + 2) (by omega), n (m + 20) (by omega), n (m + 21) (by omega), n (m + 11) (by omega), n m (by omega), e, am_u_up, am_u_up, am_u_n _ _ _ _ 0 (by omega), am_u_n _ _ _ _ 1 (by omega), am_u_n _ _ _ _ 3 (by omega), am_u_n _ _ _ _ 4 (by omega), c.2.2.2.1]
  exact ⟨c.1, c.2.1, c.2.2.1, rfl, c.2.2.2.2.1, c.2.2.2.2.2⟩
theorem mrR.u11 (c : mrR g m A Z) (e : g1 = am_u g (m + 11) j v) : mrR g1 m A (am_u Z 3 j v) := by
  have n : ∀ q, q ≠ m + 11 → g1 q = g q := fun q hq => by rw [e, am_u_n _ _ _ _ _ hq]
  unfold mrR
  rw [n (m + 2) (by omega), n (m + 20) (by omega), n (m + 21) (by omega), n (m + 10) (by omega), n m (by omega), e, am_u_up, am_u_up, am_u_n _ _ _ _ 0 (by omega), am_u_n _ _ _ _ 1 (by omega), am_u_n _ _ _ _ 2 (by omega), am_u_n _ _ _ _ 4 (by omega), c.2.2.2.2.1]
  exact ⟨c.1, c.2.1, c.2.2.1, c.2.2.2.1, rfl, c.2.2.2.2.2⟩
theorem mrR.g41 (c : mrR g m A Z) (v : Int) : mrR g m A (am_u Z 4 1 v) := by
  unfold mrR
  rw [am_u_n _ _ _ _ 0 (by omega), am_u_n _ _ _ _ 1 (by omega), am_u_n _ _ _ _ 2 (by omega), am_u_n _ _ _ _ 3 (by omega), am_u_j (by omega)]
  exact c
end
theorem dr10_rg (s : Int) : am_ri (dr10 s) ∧ am_ri ((am_ushr s 8).tmod 10) := by
  have e := Int.natAbs_tmod (am_ushr s 8) 10
  have : ((am_ushr s 8).tmod 10).natAbs < 10 := by
    rw [e]
    exact Nat.mod_lt _ (by decide)
  unfold dr10 am_ri
  omega
theorem sn_01 (A : Nat → Int) (p s : Int) : ∀ i, (sn A p s i).2 = 0 ∨ (sn A p s i).2 = 1
  | 0 => Or.inl rfl
  | i + 1 => by
    unfold sn
    split
    · exact sn_01 A p s i
    · dsimp only
      split
      · exact Or.inr rfl
      · exact sn_01 A p s i
section
variable {Y : am_Y} {g : am_H} {m d : Nat} {A : Nat → Int} {Z : am_H} {n p y t : Int}
theorem ac_m_canHelp (hM : am_at Y m am_L12) (eA : g (m + 2) = A) (w : wV A) (hp : 0 ≤ p ∧ p < A 1) (hn : 0 ≤ n ∧ n < A 2) : am_cI am_Md_canHelp (d + 1) Y [.inr (.inr m), .inl p, .inl n] g (fun r g1 => g1 = g ∧ r = if asked A p n then 1 else 0) := by
  have hz := w.1.z
  unfold rz at hz
  have w2 := wr_2 w.1
  have r := needRg w hn
  refine am_Met.of (by decide) rfl (Nat.le_of_ble_eq_true rfl) (ab_Md_canHelp_0 hM (eK (ac_m_needy (d := 0) hM (by omega)) (by omega) ?_))
  rw [eA]
  refine ⟨fun z => ?_, fun z => eK (ac_m_needed (d := 0) hM (by omega)) (by omega) ?_⟩
  · rw [am_qI_s]
    exact ⟨rfl, (if_neg fun q => q.2.2.1 z).symm⟩
  · rw [eA]
    refine eK (ac_m_pains (d := 0) hM (by omega) (by omega)) (by omega) ?_
    rw [eA]
    refine ⟨fun z2 => ?_, fun z2 => ?_⟩
    · rw [am_qI_s]
      exact ⟨rfl, (if_neg fun q => by have := q.2.2.2; omega).symm⟩
    · rw [am_qI_s]
      exact ⟨rfl, (if_pos ⟨hp, hn, z, z2⟩).symm⟩
theorem ac_m_draw (hM : am_at Y m am_L12) : am_cI am_Md_draw d Y [.inr (.inr m), .inl 10] g (fun r g1 => g1 = am_u g m 40 (sdr (g m 40)) ∧ r = dr10 (sdr (g m 40))) := by
  refine am_Met.of (by decide) rfl (Nat.le_of_ble_eq_true rfl) (ab_Md_draw_0 hM fun g1 e1 => ⟨by decide, (dr10_rg _).2, ?_⟩)
  rw [am_qI_s, e1, am_u_s]
  exact ⟨rfl, rfl⟩
theorem ac_m_isSeen (hM : am_at Y m am_L12) (c : mrR g m A Z) (w : wV A) (zz : ∀ q : Nat, q < 8 → A (160 + 8 * q + q) = 0) (hp : 0 ≤ p ∧ p < A 1) : am_cI am_Md_isSeen (d + 1) Y [.inr (.inr m), .inl p] g (fun r g1 => r = (zSee A Z p).2 ∧ mrR g1 m A (zSee A Z p).1 ∧ (∀ q, q ≠ m → g1 q = g q) ∧ ∀ j, j ≠ 40 → g1 m j = g m j) := by
  have hz := w.1.z
  unfold rz at hz
  refine am_Met.of (by decide) rfl (Nat.le_of_ble_eq_true rfl) (ab_Md_isSeen_0 hM ?_)
  have lp : ∀ i : Int, ∀ g1 : am_H, 0 ≤ i → i ≤ A 1 → (∀ q, q ≠ m → g1 q = g q) → (∀ j, j ≠ 40 → g1 m j = g m j) → g1 m 40 = (sn A p (Z 4 0) i.toNat).1 → aw_Md_isSeen_4 (d + 1) Y m p (sn A p (Z 4 0) i.toNat).2 i g1 (am_qI fun r g1 => r = (zSee A Z p).2 ∧ mrR g1 m A (zSee A Z p).1 ∧ (∀ q, q ≠ m → g1 q = g q) ∧ ∀ j, j ≠ 40 → g1 m j = g m j) := by
    refine am_up (fun i => ∀ g1 : am_H, 0 ≤ i → i ≤ A 1 → (∀ q, q ≠ m → g1 q = g q) → (∀ j, j ≠ 40 → g1 m j = g m j) → g1 m 40 = (sn A p (Z 4 0) i.toNat).1 → aw_Md_isSeen_4 (d + 1) Y m p (sn A p (Z 4 0) i.toNat).2 i g1 (am_qI fun r g1 => r = (zSee A Z p).2 ∧ mrR g1 m A (zSee A Z p).1 ∧ (∀ q, q ≠ m → g1 q = g q) ∧ ∀ j, j ≠ 40 → g1 m j = g m j)) (A 1) ?_ ?_
    · intro i hi g1 h0 h8 e1 e2 e3
      refine ab_Md_isSeen_4 hM (eK (ac_m_persons (d := 0) hM) (by omega) ?_)
      rw [e1 _ (by omega), c.1]
      refine ⟨fun _ => ⟨sn_01 _ _ _ _, ?_⟩, fun z => by omega⟩
      rw [am_qI_s]
      have iP : i = A 1 := by omega
      rw [iP] at e3
      refine ⟨by rw [iP]; rfl, ?_, e1, e2⟩
      unfold mrR zSee
      dsimp only
      rw [e1 _ (by omega), e1 _ (by omega), e1 _ (by omega), e1 _ (by omega), e1 _ (by omega), e3, am_u_n _ _ _ _ 0 (by omega), am_u_n _ _ _ _ 1 (by omega), am_u_n _ _ _ _ 2 (by omega), am_u_n _ _ _ _ 3 (by omega), am_u_s]
      exact ⟨c.1, c.2.1, c.2.2.1, c.2.2.2.1, c.2.2.2.2.1, rfl⟩
    · intro i hi ih g1 h0 h8 e1 e2 e3
      have ii : ((i.toNat : Nat) : Int) = i := by omega
      have skip : A (160 + 8 * i + p).toNat ≤ 0 → (am_ri (i + 1)) ∧ aw_Md_isSeen_4 (d + 1) Y m p (sn A p (Z 4 0) i.toNat).2 (i + 1) g1 (am_qI fun r g1 => r = (zSee A Z p).2 ∧ mrR g1 m A (zSee A Z p).1 ∧ (∀ q, q ≠ m → g1 q = g q) ∧ ∀ j, j ≠ 40 → g1 m j = g m j) := by
        intro z
        have e : sn A p (Z 4 0) (i.toNat + 1) = sn A p (Z 4 0) i.toNat := by
          show (if A (160 + 8 * ((i.toNat : Nat) : Int) + p).toNat ≤ 0 then _ else _) = _
          rw [ii, if_pos z]
        have go := ih g1 (by omega) (by omega) e1 e2 (by rw [show (i + 1).toNat = i.toNat + 1 from by omega, e]; exact e3)
        rw [show (i + 1).toNat = i.toNat + 1 from by omega, e] at go
        exact ⟨by unfold am_ri; omega, go⟩
      refine ab_Md_isSeen_4 hM (eK (ac_m_persons (d := 0) hM) (by omega) ?_)
      rw [e1 _ (by omega), c.1]
      refine ⟨fun z => by omega, fun _ => ⟨fun z => skip ?_, fun z => eK (ac_m_sees (d := 0) hM (by omega) (by omega)) (by omega) ?_⟩⟩
      · have := zz p.toNat (by omega)
        rw [show (160 + 8 * i + p).toNat = 160 + 8 * p.toNat + p.toNat from by omega, this]
        omega
      · rw [e1 _ (by omega), c.1]
        refine ⟨skip, fun z2 => am_kI.of (ac_m_draw (d := 0) hM) (by omega) ?_⟩
        rintro v g2 - - ⟨eg, rfl⟩
        have n2 : ∀ q, q ≠ m → g2 q = g q := fun q hq => by rw [eg, am_u_n _ _ _ _ _ hq, e1 q hq]
        have j2 : ∀ j, j ≠ 40 → g2 m j = g m j := fun j hj => by rw [eg, am_u_j hj, e2 j hj]
        have s2 : g2 m 40 = sdr (sn A p (Z 4 0) i.toNat).1 := by rw [eg, am_u_s, e3]
        refine eK (ac_m_sees (d := 0) hM (by omega) (by omega)) (by omega) ?_
        rw [n2 _ (by omega), c.1, e3]
        have e : sn A p (Z 4 0) (i.toNat + 1) = (sdr (sn A p (Z 4 0) i.toNat).1, if dr10 (sdr (sn A p (Z 4 0) i.toNat).1) < A (160 + 8 * i + p).toNat then 1 else (sn A p (Z 4 0) i.toNat).2) := by
          show (if A (160 + 8 * ((i.toNat : Nat) : Int) + p).toNat ≤ 0 then _ else _) = _
          rw [ii, if_neg (by omega)]
        have go := ih g2 (by omega) (by omega) n2 j2 (by rw [show (i + 1).toNat = i.toNat + 1 from by omega, e]; exact s2)
        rw [show (i + 1).toNat = i.toNat + 1 from by omega, e] at go
        dsimp only at go
        refine ⟨fun z3 => ⟨by unfold am_ri; omega, ?_⟩, fun z3 => ⟨by unfold am_ri; omega, ?_⟩⟩
        · rw [if_neg (by omega)] at go
          exact go
        · rw [if_pos z3] at go
          exact go
  exact lp 0 g (by omega) (by omega) (fun _ _ => rfl) (fun _ _ => rfl) c.2.2.2.2.2
/-- what offers tells -/
def moQ (g1 : am_H) (m : Nat) (A : Nat → Int) (Z : am_H) (n : Int) (t : Nat) (v : Int) : Prop :=
  mrR g1 m A Z ∧ (sr (fAc A n t) (A 1).toNat 0 = -1 → v = 0) ∧ (¬ sr (fAc A n t) (A 1).toNat 0 = -1 → v = fAc A n t (sr (fAc A n t) (A 1).toNat 0).toNat ∧ g1 m 45 = sr (fAc A n t) (A 1).toNat 0 ∧ g1 m 46 = if A (325 + 2 * (sr (fAc A n t) (A 1).toNat 0).toNat) = 4 then ptn A n (sr (fAc A n t) (A 1).toNat 0).toNat else -1)
theorem ac_m_offers (hM : am_at Y m am_L12) (c : mrR g m A Z) (w : wV A) (hn : 0 ≤ n ∧ n < A 2) (ht : 0 ≤ t ∧ t ≤ 20) : am_cI am_Md_offers (d + 4) Y [.inr (.inr m), .inl n, .inl t] g (fun v g1 => moQ g1 m A Z n t.toNat v ∧ mrF g g1 m) := by
  have hz := w.1.z
  unfold rz at hz
  have w2 := wr_2 w.1
  refine am_Met.of (by decide) rfl (Nat.le_of_ble_eq_true rfl) (ab_Md_offers_0 hM fun g0 e0 => ?_)
  have lp : ∀ i : Int, ∀ g1 : am_H, 0 ≤ i → i ≤ A 1 → mrR g1 m A Z → mrF g g1 m → g1 m 46 = -1 → sr (fAc A n t.toNat) (A 1).toNat 0 = sr (fAc A n t.toNat) (A 1).toNat i.toNat → aw_Md_offers_7 (d + 4) Y m n t i g1 (am_qI fun v g1 => moQ g1 m A Z n t.toNat v ∧ mrF g g1 m) := by
    refine am_up (fun i => ∀ g1 : am_H, 0 ≤ i → i ≤ A 1 → mrR g1 m A Z → mrF g g1 m → g1 m 46 = -1 → sr (fAc A n t.toNat) (A 1).toNat 0 = sr (fAc A n t.toNat) (A 1).toNat i.toNat → aw_Md_offers_7 (d + 4) Y m n t i g1 (am_qI fun v g1 => moQ g1 m A Z n t.toNat v ∧ mrF g g1 m)) (A 1) ?_ ?_
    · intro i hi g1 h0 h8 c1 f1 e46 es
      refine ab_Md_offers_7 hM (eK (ac_m_persons (d := 0) hM) (by omega) ?_)
      rw [c1.1]
      refine ⟨fun _ => ?_, fun z => by omega⟩
      rw [sr_e (q := i.toNat) (by omega)] at es
      rw [am_qI_s]
      exact ⟨⟨c1, fun _ => rfl, fun z => absurd es z⟩, f1⟩
    · intro i hi ih g1 h0 h8 c1 f1 e46 es
      have ii : ((i.toNat : Nat) : Int) = i := by omega
      rw [sr_s (q := i.toNat) (by omega)] at es
      have next : ∀ g2, fAc A n t.toNat i.toNat = 0 → mrR g2 m A Z → mrF g g2 m → g2 m 46 = -1 → (am_ri (i + 1)) ∧ aw_Md_offers_7 (d + 4) Y m n t (i + 1) g2 (am_qI fun v g1 => moQ g1 m A Z n t.toNat v ∧ mrF g g1 m) := by
        intro g2 z c2 f2 e2
        rw [if_pos z] at es
        exact ⟨by unfold am_ri; omega, ih g2 (by omega) (by omega) c2 f2 e2 (by rw [show (i + 1).toNat = i.toNat + 1 from by omega]; exact es)⟩
      have stop : ∀ g2 (v : Int), ¬ fAc A n t.toNat i.toNat = 0 → v = fAc A n t.toNat i.toNat → mrR g2 m A Z → mrF g g2 m → g2 m 45 = i → (g2 m 46 = if A (325 + 2 * i.toNat) = 4 then ptn A n i.toNat else -1) → am_qI (fun v g1 => moQ g1 m A Z n t.toNat v ∧ mrF g g1 m) (some (.inl v)) g2 := by
        intro g2 v z ev c2 f2 e45 e46
        rw [if_neg z, ii] at es
        rw [am_qI_s]
        unfold moQ
        rw [es]
        exact ⟨⟨c2, fun z => by omega, fun _ => ⟨ev, e45, e46⟩⟩, f2⟩
      refine ab_Md_offers_7 hM (eK (ac_m_persons (d := 0) hM) (by omega) ?_)
      rw [c1.1]
      refine ⟨fun z => by omega, fun _ => eK (ac_m_canHelp (d := 0) hM c1.1 w ⟨h0, hi⟩ hn) (by omega) ?_⟩
      by_cases q : asked A i n
      · rw [if_pos q]
        refine ⟨fun _ g5 e5 => ⟨by unfold am_ri; omega, by unfold am_ri; omega, by omega, ?_⟩, fun z => absurd z (by decide)⟩
        have c5 := c1.cell e5 (by omega)
        have f5 := f1.trans (mrF.u e5 (by omega))
        have e546 : g5 m 46 = -1 := by rw [e5, am_u_j (by omega)]; exact e46
        have e545 : g5 m 45 = i := by rw [e5, am_u_s]
        have q' : ¬ ¬ asked A ((i.toNat : Nat) : Int) n := by rw [ii]; exact fun z => z q
        rw [c5.1, show (325 + 2 * i).toNat = 325 + 2 * i.toNat from by omega]
        refine ⟨fun z1 => ⟨fun z2 => ⟨fun z3 => ⟨fun z4 => ⟨by unfold am_ri; omega, ?_⟩, fun z4 => ?_⟩, fun z3 => ?_⟩, fun z2 => ?_⟩, fun z1 => ?_⟩
        · -- together
          have fe : fAc A n t.toNat i.toNat = if ptn A n i.toNat < 0 then 0 else 1 := by
            unfold fAc
            rw [if_neg q', if_neg z1, if_neg z2, if_neg z3, if_pos z4]
          have pr := ptn_rg (A := A) (n := n) (by omega) i.toNat
          have lq : ∀ j : Int, ∀ g6 : am_H, i + 1 ≤ j → j ≤ A 1 → mrR g6 m A Z → mrF g g6 m → g6 m 45 = i → (g6 m 46 = -1 ∧ ptn A n i.toNat = sr (fun q => if A (325 + 2 * q) = 4 ∧ asked A (q : Int) n then 1 else 0) (A 1).toNat j.toNat ∨ ¬ g6 m 46 = -1 ∧ g6 m 46 = ptn A n i.toNat) → aw_Md_offers_103 (d + 4) Y m n t i j g6 (am_qI fun v g1 => moQ g1 m A Z n t.toNat v ∧ mrF g g1 m) := by
            refine am_up (fun j => ∀ g6 : am_H, i + 1 ≤ j → j ≤ A 1 → mrR g6 m A Z → mrF g g6 m → g6 m 45 = i → (g6 m 46 = -1 ∧ ptn A n i.toNat = sr (fun q => if A (325 + 2 * q) = 4 ∧ asked A (q : Int) n then 1 else 0) (A 1).toNat j.toNat ∨ ¬ g6 m 46 = -1 ∧ g6 m 46 = ptn A n i.toNat) → aw_Md_offers_103 (d + 4) Y m n t i j g6 (am_qI fun v g1 => moQ g1 m A Z n t.toNat v ∧ mrF g g1 m)) (A 1) ?_ ?_
            · intro j hj g6 j0 j8 c6 f6 e45 e6
              refine ab_Md_offers_103 hM (eK (ac_m_persons (d := 0) hM) (by omega) ?_)
              rw [c6.1]
              refine ⟨fun _ => ⟨fun z => ?_, fun z => ?_⟩, fun z => by omega⟩
              · have e : ptn A n i.toNat = -1 := by
                  rcases e6 with ⟨-, e⟩ | ⟨e, -⟩
                  · rw [e, sr_e (by omega)]
                  · exact absurd z e
                exact next g6 (by rw [fe, if_pos (by omega)]) c6 f6 z
              · have e : g6 m 46 = ptn A n i.toNat := by
                  rcases e6 with ⟨e, -⟩ | ⟨-, e⟩
                  · exact absurd e z
                  · exact e
                exact stop g6 1 (by rw [fe, if_neg (by omega)]; omega) (by rw [fe, if_neg (by omega)]) c6 f6 e45 (by rw [if_pos z4]; exact e)
            · intro j hj jh g6 j0 j8 c6 f6 e45 e6
              refine ab_Md_offers_103 hM (eK (ac_m_persons (d := 0) hM) (by omega) ?_)
              rw [c6.1]
              refine ⟨fun z => by omega, fun _ => ⟨fun z => ⟨fun z2 => absurd z2 z, fun _ => ?_⟩, fun z => eK (ac_m_canHelp (d := 0) hM c6.1 w ⟨by omega, hj⟩ hn) (by omega) ?_⟩⟩
              · have e : g6 m 46 = ptn A n i.toNat := by
                  rcases e6 with ⟨e, -⟩ | ⟨-, e⟩
                  · exact absurd e z
                  · exact e
                exact stop g6 1 (by rw [fe, if_neg (by omega)]; omega) (by rw [fe, if_neg (by omega)]) c6 f6 e45 (by rw [if_pos z4]; exact e)
              · have e : ptn A n i.toNat = sr (fun q => if A (325 + 2 * q) = 4 ∧ asked A (q : Int) n then 1 else 0) (A 1).toNat j.toNat := by
                  rcases e6 with ⟨-, e⟩ | ⟨e, -⟩
                  · exact e
                  · exact absurd z e
                have jj : ((j.toNat : Nat) : Int) = j := by omega
                rw [sr_s (by omega), jj] at e
                have jn : (j + 1).toNat = j.toNat + 1 := by omega
                by_cases qj : asked A j n
                · rw [if_pos qj]
                  refine ⟨fun z => absurd z (by decide), fun _ => ⟨by unfold am_ri; omega, by unfold am_ri; omega, by omega, ?_⟩⟩
                  rw [c6.1, show (325 + 2 * j).toNat = 325 + 2 * j.toNat from by omega]
                  refine ⟨fun zw => ⟨by unfold am_ri; omega, jh g6 (by omega) (by omega) c6 f6 e45 (Or.inl ⟨z, ?_⟩)⟩, fun zw g7 e7 => ⟨by unfold am_ri; omega, jh g7 (by omega) (by omega) (c6.cell e7 (by omega)) (f6.trans (mrF.u e7 (by omega))) (by rw [e7, am_u_j (by omega)]; exact e45) (Or.inr ?_)⟩⟩
                  · rw [jn, e, if_pos (if_neg fun r => zw r.1)]
                  · rw [if_neg (by rw [if_pos ⟨zw, qj⟩]; decide)] at e
                    rw [e7, am_u_s, e]
                    exact ⟨by omega, rfl⟩
                · rw [if_neg qj]
                  refine ⟨fun _ => ⟨by unfold am_ri; omega, jh g6 (by omega) (by omega) c6 f6 e45 (Or.inl ⟨z, ?_⟩)⟩, fun z => absurd rfl z⟩
                  rw [jn, e, if_pos (if_neg fun r => qj r.2)]
          refine lq (i + 1) g5 (by omega) (by omega) c5 f5 e545 (Or.inl ⟨e546, ?_⟩)
          rw [show (i + 1).toNat = i.toNat + 1 from by omega]
          rfl
        · refine next g5 ?_ c5 f5 e546
          unfold fAc
          rw [if_neg q', if_neg z1, if_neg z2, if_neg z3, if_neg z4]
        · have fe : fAc A n t.toNat i.toNat = bA (pmA A i n 0) t.toNat 0 := by
            unfold fAc
            rw [if_neg q', if_neg z1, if_neg z2, if_pos z3, ii]
          refine am_kI.of (ac_m_freely (d := 0) hM (by rw [c5.1]; exact w) (by rw [c5.1]; omega) (by rw [c5.1]; exact hn) ht (by omega)) (by omega) ?_
          rintro v g7 - - ⟨f7, rfl, k7⟩
          rw [c5.1] at k7 ⊢
          have n7 : g7 m = g5 m := f7 m (by omega) (by omega)
          refine ⟨fun z5 => ⟨fun z4 => by omega, fun _ => next g7 (by rw [fe]; exact z5) (c5.but f7) (f5.trans (mrF.but f7)) (by rw [n7]; exact e546)⟩, fun z5 => ⟨by unfold am_ri; omega, by omega, ?_⟩⟩
          have k := k7 t.toNat 0 (by omega) (by have := wr_3 w.1; omega)
          rw [show t.toNat * 10 + 0 = (10 * t).toNat from by omega] at k
          rw [k]
          exact stop g7 _ (by rw [fe]; exact z5) fe.symm (c5.but f7) (f5.trans (mrF.but f7)) (by rw [n7]; exact e545) (by rw [n7, if_neg (by omega)]; exact e546)
        · have fe : fAc A n t.toNat i.toNat = 1 := by
            unfold fAc
            rw [if_neg q', if_neg z1, if_pos z2]
          exact stop g5 1 (by omega) fe.symm c5 f5 e545 (by rw [if_neg (by omega)]; exact e546)
        · have fe : fAc A n t.toNat i.toNat = 2 := by
            unfold fAc
            rw [if_neg q', if_pos z1]
          exact stop g5 2 (by omega) fe.symm c5 f5 e545 (by rw [if_neg (by omega)]; exact e546)
      · rw [if_neg q]
        refine ⟨fun z => absurd rfl z, fun _ => next g1 ?_ c1 f1 e46⟩
        unfold fAc
        rw [if_pos (by rw [ii]; exact q)]
  exact lp 0 g0 (by omega) (by omega) (c.cell e0 (by omega)) (mrF.u e0 (by omega)) (by rw [e0, am_u_s]) rfl
end
