/-! contracts: the reference's ties, and what may be told once -/
section
variable {d : Nat} {Y : am_Y} {h : am_H} {m : Nat} {s : Nat → Int} {n lim : Nat} {r : List TK}
theorem pWho_bad1 {S : VS} (c : ¬ (hd S.2.2).1 = 24) : pWho S = pb S.2.2 1 := by
  unfold pWho
  rw [if_neg c]
theorem pWho_bad3 {S : VS} (c : (hd S.2.2).1 = 24) (c2 : pF S.1 S.2.1 (hd S.2.2).2.2 < 6) : pWho S = pb S.2.2 3 := by
  unfold pWho
  rw [if_pos c, if_pos c2]
theorem pWho_ok {S : VS} (c : (hd S.2.2).1 = 24) (c2 : ¬ pF S.1 S.2.1 (hd S.2.2).2.2 < 6) : pWho S = .inr (pF S.1 S.2.1 (hd S.2.2).2.2 - 6) := by
  unfold pWho
  rw [if_pos c, if_neg c2]
/-- from the second name on -/
def pTie2 (S : VS) (base p : Int) : PE VS := pbd (pWho S) fun q => if q = p ∨ 0 < S.1 (base + 8 * p + q).toNat then pb S.2.2 3 else pNum (S.1, S.2.1, nx S.2.2) 1 10 (base + 8 * p + q)
theorem pTie_2 {S : VS} {base p : Int} (e : pWho (S.1, S.2.1, nx S.2.2) = .inr p) : pTie S base = pTie2 (S.1, S.2.1, nx (nx S.2.2)) base p := by
  unfold pTie
  rw [e]
  rfl
theorem pTie_bad {S : VS} {base : Int} {q : Int × Int} (e : pWho (S.1, S.2.1, nx S.2.2) = .inl q) : pTie S base = .inl q := by
  unfold pTie
  rw [e]
  rfl
theorem ac_m_readTie {x : Int} (hY : am_at Y m am_L12) (hc : MC h m s n lim) (hr : M0 h m s n lim r) (hz : rz (h (m + 3))) (hx : x = 95 ∨ x = 160) : am_cI am_Md_readTie (d + 3) Y [.inr (.inr m), .inl x] h (rL h m s n lim (pTie (h (m + 3), h (m + 7), r) x)) := by
  have hz' := hz
  unfold rz at hz'
  refine am_Met.of (by decide) rfl (Nat.le_of_ble_eq_true rfl) (ab_Md_readTie_0 hY (goK hY hc hr (by omega) ?_))
  intro h1 f1 _ r1
  have e3 : h1 (m + 3) = h (m + 3) := f1.1 _ (by omega)
  have e7 : h1 (m + 7) = h (m + 7) := f1.1 _ (by omega)
  have c1 := hc.fr f1.r
  have F1 := f1.r
  have G1 : h1 m 23 = h m 23 := f1.2 23 (by omega)
  have z1 : rz (h1 (m + 3)) := by rw [e3]; exact hz
  refine nameK hY r1 (by omega) ?_
  by_cases c : (hd (nx r)).1 = 24
  · rw [if_pos c]
    refine ⟨fun _ => findK hY z1 r1 c (by omega) ?_, fun z => absurd z (by decide)⟩
    rw [e3, e7]
    have hp := pF_rg (h (m + 3)) (h (m + 7)) (hd (nx r)).2.2 hz
    refine ⟨⟨by omega, by omega⟩, fun z => ?_, fun z => badK hY r1 (by omega) ?_⟩
    · have w : pWho (h (m + 3), h (m + 7), nx r) = .inr (pF (h (m + 3)) (h (m + 7)) (hd (nx r)).2.2 - 6) := pWho_ok c (by simp only; omega)
      rw [pTie_2 w]
      generalize hp' : pF (h (m + 3)) (h (m + 7)) (hd (nx r)).2.2 - 6 = p at hp z ⊢
      have hp2 : 0 ≤ p ∧ p < 8 := by omega
      refine goK hY c1 r1 (by omega) ?_
      intro h6 f6 _ r6
      have e3 : h6 (m + 3) = h (m + 3) := (f6.1 _ (by omega)).trans e3
      have e7 : h6 (m + 7) = h (m + 7) := (f6.1 _ (by omega)).trans e7
      have F6 := F1.trans f6.r
      have G6 : h6 m 23 = h m 23 := (f6.2 23 (by omega)).trans G1
      have z6 : rz (h6 (m + 3)) := by rw [e3]; exact hz
      refine nameK hY r6 (by omega) ?_
      by_cases c6 : (hd (nx (nx r))).1 = 24
      · rw [if_pos c6]
        refine ⟨fun _ => findK hY z6 r6 c6 (by omega) ?_, fun z => absurd z (by decide)⟩
        rw [e3, e7]
        have hq := pF_rg (h (m + 3)) (h (m + 7)) (hd (nx (nx r))).2.2 hz
        refine ⟨⟨by omega, by omega⟩, fun zq => badK hY r6 (by omega) ?_, fun zq => ?_⟩
        · intro h9 f9 e10 e11
          refine rL.bad (F6.trans f9.r) ((f9.2 23 (by omega)).trans G6) e10 e11 ?_
          unfold pTie2
          rw [pWho_bad3 c6 (by simp only; omega)]
          rfl
        · have wq : pWho (h (m + 3), h (m + 7), nx (nx r)) = .inr (pF (h (m + 3)) (h (m + 7)) (hd (nx (nx r))).2.2 - 6) := pWho_ok c6 (by simp only; omega)
          unfold pTie2
          rw [wq]
          generalize hq' : pF (h (m + 3)) (h (m + 7)) (hd (nx (nx r))).2.2 - 6 = q at hq zq ⊢
          have hq2 : 0 ≤ q ∧ q < 8 := by omega
          refine ⟨fun eq => badK hY r6 (by omega) ?_, fun eq => ⟨⟨by omega, by omega⟩, ⟨by omega, by omega⟩, ⟨by omega, by omega⟩, ⟨by omega, by omega⟩, fun w0 => ?_, fun w0 => badK hY r6 (by omega) ?_⟩⟩
          · intro h9 f9 e10 e11
            refine rL.bad (F6.trans f9.r) ((f9.2 23 (by omega)).trans G6) e10 e11 ?_
            exact if_pos (Or.inl eq)
          · refine goK hY (hc.fr F6) r6 (by omega) ?_
            intro h9 f9 _ r9
            have F9 := F6.trans f9.r
            have G9 : h9 m 23 = h m 23 := (f9.2 23 (by omega)).trans G6
            have ep : (pbd (.inr q : PE Int) fun q => if q = p ∨ 0 < (h (m + 3)) (x + 8 * p + q).toNat then pb (nx (nx r)) 3 else pNum (h (m + 3), h (m + 7), nx (nx (nx r))) 1 10 (x + 8 * p + q)) = pNum (h (m + 3), h (m + 7), nx (nx (nx r))) 1 10 (x + 8 * p + q) := if_neg (by omega)
            refine numK hY (hc.fr F9) r9 (by omega) ?_
            intro x4 h4 f4 o4
            have F4 := F9.trans f4.r
            have G4 : h4 m 23 = h m 23 := (f4.2 23 (by omega)).trans G9
            cases hB : pN (nx (nx (nx r))) 1 10 with
            | inl b =>
              rw [hB] at o4
              obtain ⟨rfl, o5, o6⟩ := o4
              refine ⟨fun z => absurd rfl z, fun _ => ?_⟩
              rw [am_qI_s, ep, pNum_l (by exact hB)]
              exact ⟨F4, G4, rfl, o5, o6⟩
            | inr B =>
              rw [hB] at o4
              obtain ⟨rfl, o5, br⟩ := o4
              refine ⟨fun _ => ⟨⟨by omega, by omega⟩, ⟨by omega, by omega⟩, ⟨by omega, by omega⟩, ⟨by omega, by omega⟩, fun h8 e8 => ?_⟩, fun z => absurd z (by decide)⟩
              rw [am_qI_s, ep, pNum_r (by exact hB)]
              refine ⟨F4.trans (e8 ▸ mFr.u3), (by rw [e8]; exact am_u_o (by omega) : h8 m 23 = h4 m 23).trans G4, rfl, ?_, ?_, ?_⟩
              · rw [e8, am_u_up, f4.1 _ (by omega), f9.1 _ (by omega), e3, o5]
              · rw [e8, am_u_n _ _ _ _ _ (by omega), f4.1 _ (by omega), f9.1 _ (by omega), e7]
              · exact br.but fun j _ _ _ _ => by rw [e8]; exact am_u_o (by omega)
          · intro h9 f9 e10 e11
            refine rL.bad (F6.trans f9.r) ((f9.2 23 (by omega)).trans G6) e10 e11 ?_
            exact if_pos (Or.inr w0)
      · rw [if_neg c6]
        refine ⟨fun z => absurd rfl z, fun _ => badK hY r6 (by omega) ?_⟩
        intro h9 f9 e10 e11
        refine rL.bad (F6.trans f9.r) ((f9.2 23 (by omega)).trans G6) e10 e11 ?_
        unfold pTie2
        rw [pWho_bad1 c6]
        rfl
    · intro h9 f9 e10 e11
      refine rL.bad (F1.trans f9.r) ((f9.2 23 (by omega)).trans G1) e10 e11 ?_
      exact pTie_bad (pWho_bad3 c (by simp only; omega))
  · rw [if_neg c]
    refine ⟨fun z => absurd rfl z, fun _ => badK hY r1 (by omega) ?_⟩
    intro h9 f9 e10 e11
    refine rL.bad (F1.trans f9.r) ((f9.2 23 (by omega)).trans G1) e10 e11 ?_
    exact pTie_bad (pWho_bad1 c)
def oLo (w : Int) : Int := if w = 4 then 1 else 0
def oHi (w : Int) : Int := if w = 4 then 9 else if w = 5 then 999 else 99
def oCell (w : Int) : Int := if w = 4 then 3 else if w = 5 then 4 else 5
def pOnce (had : Int) (S : VS) (w : Int) : PE VS := if am_and (am_shr had w) 1 = 1 then pb S.2.2 3 else pNum (S.1, S.2.1, nx S.2.2) (oLo w) (oHi w) (oCell w)
theorem once67 {h0 : am_H} {S : VS} {w : Int} (hY : am_at Y m am_L12) (hc : MC h m s n lim) (hw : w = 4 ∨ w = 5 ∨ w = 6) (hS : rS h m s n lim S) (F : mFr h0 h m) : aw_Md_readOnce_67 (d + 3) Y m w (oLo w) (oHi w) h (am_qI (fun x h1 => mFr h0 h1 m ∧ ro h1 m x (pNum S (oLo w) (oHi w) (oCell w)) (fun S1 => rS h1 m s n lim S1 ∧ h1 m 23 = h m 23))) := by
  obtain ⟨a3, a7, hr⟩ := hS
  refine ab_Md_readOnce_67 hY (numK hY hc hr (by omega) ?_)
  intro x4 h4 f4 o4
  have F4 := F.trans f4.r
  have G4 : h4 m 23 = h m 23 := f4.2 23 (by omega)
  cases hB : pN S.2.2 (oLo w) (oHi w) with
  | inl b =>
    rw [hB] at o4
    obtain ⟨rfl, o5, o6⟩ := o4
    refine ⟨fun z => absurd rfl z, fun _ => ?_⟩
    rw [am_qI_s, pNum_l hB]
    exact ⟨F4, rfl, o5, o6⟩
  | inr B =>
    rw [hB] at o4
    obtain ⟨rfl, o5, br⟩ := o4
    have fin : ∀ (h8 : am_H) (j : Nat), j = (oCell w).toNat → h8 = am_u h4 (m + 3) j (h4 m 13) → am_qI (fun x h1 => mFr h0 h1 m ∧ ro h1 m x (pNum S (oLo w) (oHi w) (oCell w)) (fun S1 => rS h1 m s n lim S1 ∧ h1 m 23 = h m 23)) (some (.inl 1)) h8 := by
      intro h8 j ej e8
      rw [am_qI_s, pNum_r hB]
      refine ⟨F4.trans (e8 ▸ mFr.u3), rfl, ⟨?_, ?_, ?_⟩, (by rw [e8]; exact am_u_o (by omega) : h8 m 23 = h4 m 23).trans G4⟩
      · rw [e8, am_u_up, f4.1 _ (by omega), o5, a3, ej]
      · rw [e8, am_u_n _ _ _ _ _ (by omega), f4.1 _ (by omega), a7]
      · exact br.but fun j _ _ _ _ => by rw [e8]; exact am_u_o (by omega)
    refine ⟨fun _ => ⟨fun z4 => ⟨fun z5 h8 e8 => fin h8 5 ?_ e8, fun z5 h8 e8 => fin h8 4 ?_ e8⟩, fun z4 h8 e8 => fin h8 3 ?_ e8⟩, fun z => absurd z (by decide)⟩
    · have : w = 6 := by omega
      rw [this]; rfl
    · rw [z5]; rfl
    · rw [z4]; rfl
theorem ac_m_readOnce {w : Int} (hY : am_at Y m am_L12) (hc : MC h m s n lim) (hr : M0 h m s n lim r) (hw : w = 4 ∨ w = 5 ∨ w = 6) : am_cI am_Md_readOnce (d + 3) Y [.inr (.inr m), .inl w] h (fun x h1 => mFr h h1 m ∧ ro h1 m x (pOnce (h m 23) (h (m + 3), h (m + 7), r) w) (fun S1 => rS h1 m s n lim S1 ∧ h1 m 23 = am_or (h m 23) (am_shl 1 w))) := by
  refine am_Met.of (by decide) rfl (Nat.le_of_ble_eq_true rfl) (ab_Md_readOnce_0 hY (am_kI.of (ac_m_has (d := 0)) (by omega) ?_))
  rintro x h1 - - ⟨rfl, rfl⟩
  unfold pOnce
  by_cases c : am_and (am_shr (h1 m 23) w) 1 = 1
  · rw [if_pos c, if_pos c]
    refine ⟨fun z => absurd z (by decide), fun _ => badK hY hr (by omega) ?_⟩
    intro h9 f9 e10 e11
    exact ⟨f9.r, rfl, e10, e11⟩
  · rw [if_neg c, if_neg c]
    refine ⟨fun _ h3 e3 => ?_, fun z => absurd rfl z⟩
    have f3 : mFr h1 h3 m := by
      rw [e3]
      exact ⟨fun q hq _ _ => am_u_n _ _ _ _ q hq, fun j hj => am_u_j (by omega)⟩
    have r3 : M0 h3 m s n lim r := hr.but fun j _ _ _ _ => by rw [e3]; exact am_u_j (by omega)
    have t3 : h3 (m + 3) = h1 (m + 3) := by rw [e3]; exact am_u_n _ _ _ _ _ (by omega)
    have t7 : h3 (m + 7) = h1 (m + 7) := by rw [e3]; exact am_u_n _ _ _ _ _ (by omega)
    have g3 : h3 m 23 = am_or (h1 m 23) (am_shl 1 w) := by rw [e3]; exact am_u_s _ _ _ _
    refine goK hY (hc.fr f3) r3 (by omega) ?_
    intro h4 f4 _ r4
    have key := once67 (d := d) (h0 := h1) (S := (h1 (m + 3), h1 (m + 7), nx r)) hY (hc.fr (f3.trans f4.r)) hw ⟨(f4.1 _ (by omega)).trans t3, (f4.1 _ (by omega)).trans t7, r4⟩ (f3.trans f4.r)
    rw [(f4.2 23 (by omega)).trans g3] at key
    rcases hw with rfl | rfl | rfl
    · refine ⟨fun z => absurd rfl z, fun _ => ⟨fun z => absurd rfl z, fun _ => key⟩⟩
    · refine ⟨fun _ => ⟨fun _ => ⟨fun z => absurd rfl z, fun _ => key⟩, fun z => absurd z (by decide)⟩, fun z => absurd z (by decide)⟩
    · refine ⟨fun _ => ⟨fun _ => ⟨fun _ => key, fun z => absurd z (by decide)⟩, fun z => absurd z (by decide)⟩, fun z => absurd z (by decide)⟩
end
