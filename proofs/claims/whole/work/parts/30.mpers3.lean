/-! contracts: the reference's reader of a person, whole -/
theorem nx_le (r : List TK) : (nx r).length ≤ r.length := by
  match r with
  | [] => exact Nat.le_refl _
  | [_] => exact Nat.le_refl _
  | _ :: _ :: _ => simp [nx]
theorem pN_r {r : List TK} {a b : Int} {B : Int × List TK} (e : pN r a b = .inr B) : B.2 = nx r ∧ a ≤ B.1 ∧ B.1 ≤ b := by
  unfold pN at e
  split at e
  · split at e
    · next c => cases e; exact ⟨rfl, c⟩
    · cases e
  · cases e
theorem pNew_r {S A : VS} {x : Int} (e : pNew S x = .inr A) : A.2.2 = nx S.2.2 := by
  unfold pNew at e
  split at e
  · split at e
    · cases e; rfl
    · cases e
  · cases e
theorem w_9 {j : Nat} (hj : 25 ≤ j ∧ j < 33) : wlo j = 0 ∧ whi j = 9 := by
  unfold wlo whi
  refine ⟨if_neg (by omega), ?_⟩
  rw [if_neg (by omega), if_neg (by omega), if_neg (by omega), if_neg (by omega), if_neg (by omega), if_neg (by omega), if_pos (by omega)]
theorem w_99 {j : Nat} (hj : 35 ≤ j ∧ j < 83) : wlo j = 0 ∧ whi j = 99 := by
  unfold wlo whi
  refine ⟨if_neg (by omega), ?_⟩
  rw [if_neg (by omega), if_neg (by omega), if_neg (by omega), if_neg (by omega), if_neg (by omega), if_neg (by omega), if_neg (by omega), if_pos (by omega)]
/-- who is not there yet needs nothing -/
theorem co.no {R : Nat → Int} (c : co R (R 1)) (w : wr R) (h1 : 0 ≤ R 1 ∧ R 1 < 8) : R (85 + R 1).toNat = 0 := by
  have e : (85 + R 1).toNat = 85 + (R 1).toNat := by omega
  rw [e]
  refine hb_none (wr_c w (by omega)) fun j hj hh => ?_
  obtain ⟨n, hn, ha, -⟩ := (c.2.2.1 _ j (by omega) hj).mp hh
  have := (c.2.1 n hn).2.1
  omega
/-- as a person begins -/
theorem beg_w {R : Nat → Int} {v : Int} (c : co R (R 1)) (w : wr R) (h1 : 0 ≤ R 1 ∧ R 1 < 8) (hv : 0 ≤ v ∧ v ≤ 9) : wr (zer (up (up R (25 + R 1).toNat v) (85 + R 1).toNat 0) (35 + 6 * R 1).toNat 6) ∧ co (zer (up (up R (25 + R 1).toNat v) (85 + R 1).toNat 0) (35 + 6 * R 1).toNat 6) (R 1 + 1) ∧ zer (up (up R (25 + R 1).toNat v) (85 + R 1).toNat 0) (35 + 6 * R 1).toNat 6 1 = R 1 := by
  have hu : wr (up (up R (25 + R 1).toNat v) (85 + R 1).toNat 0) := by
    refine wr_up (wr_up w ?_) ?_
    · rw [(w_9 (by omega)).1, (w_9 (by omega)).2]; exact hv
    · rw [(w_63 (by omega)).1, (w_63 (by omega)).2]; omega
  have hz : ∀ i, ¬ ((35 + 6 * R 1).toNat ≤ i ∧ i < (35 + 6 * R 1).toNat + 6) → zer (up (up R (25 + R 1).toNat v) (85 + R 1).toNat 0) (35 + 6 * R 1).toNat 6 i = up (up R (25 + R 1).toNat v) (85 + R 1).toNat 0 i := fun i hi => if_neg hi
  have he : ∀ i, i ≠ (25 + R 1).toNat → ¬ ((35 + 6 * R 1).toNat ≤ i ∧ i < (35 + 6 * R 1).toNat + 6) → zer (up (up R (25 + R 1).toNat v) (85 + R 1).toNat 0) (35 + 6 * R 1).toNat 6 i = R i := fun i h25 hi => by
    rw [hz i hi]
    by_cases e : i = (85 + R 1).toNat
    · rw [e, up_s, c.no w h1]
    · rw [up_n e, up_n h25]
  refine ⟨?_, ?_, he 1 (by omega) (by omega)⟩
  · intro i hi
    by_cases ci : (35 + 6 * R 1).toNat ≤ i ∧ i < (35 + 6 * R 1).toNat + 6
    · have e : zer (up (up R (25 + R 1).toNat v) (85 + R 1).toNat 0) (35 + 6 * R 1).toNat 6 i = 0 := if_pos ci
      rw [e, (w_99 (j := i) (by omega)).1, (w_99 (j := i) (by omega)).2]
      omega
    · rw [hz i ci]
      exact hu i hi
  · exact c.same (w 2 (by omega)).2 (Int.le_of_eq (he 0 (by omega) (by omega)).symm) (by omega) (fun i hi => he i (by omega) (by omega))
section
variable {d : Nat} {Y : am_Y} {h : am_H} {m : Nat} {s : Nat → Int} {n lim : Nat} {r : List TK}
/-- the zeros -/
theorem loop71 {h0 : am_H} {p : Int} {S : VS} {Q : Option am_V → am_H → Prop} (hY : am_at Y m am_L12) (hp : 0 ≤ p ∧ p < 8)
    (hend : ∀ h1, rS h1 m s n lim (zer S.1 (35 + 6 * p).toNat 6, S.2) → mFr h0 h1 m → h1 m 23 = h0 m 23 → aw_Md_readPerson_98 (d + 4) Y m p h1 Q) :
    ∀ i : Int, ∀ h, 0 ≤ i → i ≤ 6 → rS h m s n lim (zer S.1 (35 + 6 * p).toNat i.toNat, S.2) → mFr h0 h m → h m 23 = h0 m 23 → aw_Md_readPerson_71 (d + 4) Y m p i h Q := by
  refine am_up _ 6 ?_ ?_
  · intro i hi h i0 i6 hS F G
    have e : i = 6 := by omega
    subst e
    exact ab_Md_readPerson_71 hY ⟨fun _ => hend h hS F G, fun z => by omega⟩
  · intro i hi ih h i0 i6 hS F G
    refine ab_Md_readPerson_71 hY ⟨fun z => by omega, fun _ => ⟨⟨by omega, by omega⟩, ⟨by omega, by omega⟩, ⟨by omega, by omega⟩, ⟨by omega, by omega⟩, fun h1 x1 => ⟨⟨by omega, by omega⟩, ?_⟩⟩⟩
    obtain ⟨a3, a7, hr⟩ := hS
    refine ih h1 (by omega) (by omega) ⟨?_, ?_, ?_⟩ (F.trans (x1 ▸ mFr.u3)) ((by rw [x1]; exact am_u_o (by omega) : h1 m 23 = h m 23).trans G)
    · rw [x1, am_u_up, a3, show (35 + 6 * p + i).toNat = (35 + 6 * p).toNat + i.toNat by omega, show (i + 1).toNat = i.toNat + 1 by omega]
      exact zer_s _ _ _
    · rw [x1, am_u_n _ _ _ _ _ (by omega)]
      exact a7
    · exact hr.but fun j _ _ _ _ => by rw [x1]; exact am_u_o (by omega)
theorem ac_m_readPerson (hY : am_at Y m am_L12) (hc : MC h m s n lim) (hr : M0 h m s n lim r) (w : wr (h (m + 3))) (c : co (h (m + 3)) (h (m + 3) 1)) (hl : r.length ≤ 1000) : am_cI am_Md_readPerson (d + 4) Y [.inr (.inr m)] h (rL h m s n lim (pPerson (h (m + 3), h (m + 7), r))) := by
  have hz := w.z
  have hz' := hz
  unfold rz at hz'
  refine am_Met.of (by decide) rfl (Nat.le_of_ble_eq_true rfl) (ab_Md_readPerson_0 hY ⟨fun c8 => goK hY hc hr (by omega) ?_, fun c8 => badK hY hr (by omega) ?_⟩)
  · intro h1 f1 _ r1
    have e3 : h1 (m + 3) = h (m + 3) := f1.1 _ (by omega)
    have e7 : h1 (m + 7) = h (m + 7) := f1.1 _ (by omega)
    refine ⟨⟨by omega, by omega⟩, am_kI.of (ac_m_readNew (d := 0) hY (hc.fr f1.r) r1 (by rw [e3]; exact hz) ⟨by omega, by omega⟩) (by omega) ?_⟩
    rintro x h2 - - ⟨f2, g2, o2⟩
    rw [e3, e7] at o2
    have F2 := f1.r.trans f2
    have G2 : h2 m 23 = h m 23 := g2.trans (f1.2 23 (by omega))
    unfold pPerson
    rw [if_neg (by exact c8)]
    cases hA : pNew (h (m + 3), h (m + 7), nx r) (6 + h (m + 3) 1) with
    | inl q =>
      rw [hA] at o2
      obtain ⟨rfl, o3, o4⟩ := o2
      refine ⟨fun _ => ?_, fun z => absurd rfl z⟩
      rw [am_qI_s]
      exact ⟨F2, G2, rfl, o3, o4⟩
    | inr A =>
      rw [hA] at o2
      obtain ⟨rfl, a3, a7, ar⟩ := o2
      have A1 : A.1 = h (m + 3) := pNew_1 hA
      have A2 : A.2.2 = nx (nx r) := pNew_r hA
      refine ⟨fun z => absurd z (by decide), fun _ => numK hY (hc.fr F2) ar (by omega) ?_⟩
      intro x4 h4 f4 o4
      have F4 := F2.trans f4.r
      have G4 : h4 m 23 = h m 23 := (f4.2 23 (by omega)).trans G2
      cases hB : pN A.2.2 0 9 with
      | inl q =>
        rw [hB] at o4
        obtain ⟨rfl, o5, o6⟩ := o4
        refine ⟨fun z => absurd rfl z, fun _ => ?_⟩
        rw [am_qI_s]
        refine ⟨F4, G4, ?_⟩
        show ro h4 m 0 (pbd (pNum A 0 9 (25 + h (m + 3) 1)) _) _
        rw [pNum_l hB]
        exact ⟨rfl, o5, o6⟩
      | inr B =>
        rw [hB] at o4
        obtain ⟨rfl, o5, br⟩ := o4
        have hB2 := pN_r hB
        refine ⟨fun _ => ⟨⟨by omega, by omega⟩, ⟨by omega, by omega⟩, fun h6 x6 => ⟨⟨by omega, by omega⟩, ⟨by omega, by omega⟩, fun h7 x7 => ?_⟩⟩, fun z => absurd z (by decide)⟩
        have F7 : mFr h h7 m := by
          have f6 : mFr h4 h6 m := x6 ▸ mFr.u3
          have f7 : mFr h6 h7 m := x7 ▸ mFr.u3
          exact F4.trans (f6.trans f7)
        have m7 : h7 m = h4 m := by
          rw [x7, am_u_n _ _ _ _ _ (by omega), x6, am_u_n _ _ _ _ _ (by omega)]
        have R7 : h7 (m + 3) = up (up (h (m + 3)) (25 + h (m + 3) 1).toNat B.1) (85 + h (m + 3) 1).toNat 0 := by
          rw [x7, am_u_up, x6, am_u_up, f4.1 _ (by omega), a3, A1, o5]
        have N7 : h7 (m + 7) = A.2.1 := by
          rw [x7, am_u_n _ _ _ _ _ (by omega), x6, am_u_n _ _ _ _ _ (by omega), f4.1 _ (by omega), a7]
        have hb' := beg_w c w ⟨by omega, by omega⟩ hB2.2
        have e : pbd (pNum A 0 9 (25 + h (m + 3) 1)) (fun B => pbd (pLoop 1000 (h (m + 3) 1) (zer (up B.1 (85 + h (m + 3) 1).toNat 0) (35 + 6 * h (m + 3) 1).toNat 6, B.2)) fun C => .inr (up C.1 1 (C.1 1 + 1), C.2)) = pEnd1 (pLoop 1000 (h (m + 3) 1) (zer (up (up (h (m + 3)) (25 + h (m + 3) 1).toNat B.1) (85 + h (m + 3) 1).toNat 0) (35 + 6 * h (m + 3) 1).toNat 6, A.2.1, B.2)) := by
          rw [pNum_r hB, A1]
          rfl
        show aw_Md_readPerson_71 (d + 4) Y m (h (m + 3) 1) 0 h7 (am_qI (rL h m s n lim (pbd (pNum A 0 9 (25 + h (m + 3) 1)) (fun B => pbd (pLoop 1000 (h (m + 3) 1) (zer (up B.1 (85 + h (m + 3) 1).toNat 0) (35 + 6 * h (m + 3) 1).toNat 6, B.2)) fun C => .inr (up C.1 1 (C.1 1 + 1), C.2)))))
        rw [e]
        refine loop71 (h0 := h) (S := (up (up (h (m + 3)) (25 + h (m + 3) 1).toNat B.1) (85 + h (m + 3) 1).toNat 0, A.2.1, B.2)) hY ⟨by omega, by omega⟩ ?_ 0 h7 (by omega) (by omega) ⟨?_, N7, br.but fun j _ _ _ _ => by rw [m7]⟩ F7 (by rw [m7]; exact G4)
        · intro h8 S8 F8 G8
          refine loop98 hY hc 1000 h8 _ ?_ ⟨S8, F8, G8, hb'.1, hb'.2.1, hb'.2.2, by omega, by omega⟩
          show B.2.length ≤ 1000
          rw [hB2.1, A2]
          have := nx_le r
          have := nx_le (nx r)
          have := nx_le (nx (nx r))
          omega
        · rw [R7]
          exact (zer_0 _ _).symm
  · intro h1 f1 e10 e11
    refine rL.bad f1.r (f1.2 23 (by omega)) e10 e11 ?_
    unfold pPerson
    rw [if_pos (by exact c8)]
end
