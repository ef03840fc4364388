/-! contracts: the reference's reader of a person, the loop -/
section
variable {d : Nat} {Y : am_Y} {h : am_H} {m : Nat} {s : Nat → Int} {n lim : Nat} {r : List TK}
theorem at116 {h0 : am_H} {p : Int} {f : Nat} {S : VS} (hY : am_at Y m am_L12) (hc : MC h0 m s n lim) (hS : pLS h0 h m s n lim p S) (hkd : (hd S.2.2).1 = 2 ∨ (hd S.2.2).1 = 3)
    (ih : ∀ h1 (S1 : VS), pLS h0 h1 m s n lim p S1 → S1.2.2.length ≤ (nx S.2.2).length → aw_Md_readPerson_98 (d + 4) Y m p h1 (am_qI (rL h0 m s n lim (pEnd1 (pLoop f p S1))))) :
    aw_Md_readPerson_116 (d + 4) Y m p h (am_qI (rL h0 m s n lim (pEnd1 (pbd (pBody p S) (pLoop f p))))) := by
  obtain ⟨⟨a3, a7, hr⟩, F, G, w, c, e1, hp⟩ := hS
  have w7 : ((mW.getD (7 : Int).toNat 23 : Nat) : Int) = 2 := by decide
  refine ab_Md_readPerson_116 hY (wordK hY hr ⟨by omega, by omega⟩ (by omega) ?_)
  rw [w7]
  refine goK hY (hc.fr F) hr (by omega) ?_
  intro h3 f3 _ r3
  have b3 : h3 (m + 3) = S.1 := (f3.1 _ (by omega)).trans a3
  have b7 : h3 (m + 7) = S.2.1 := (f3.1 _ (by omega)).trans a7
  refine am_kI.of (ac_m_readHelpTold (d := 0) hY r3 (by rw [b3]; exact w.z)) (by omega) ?_
  rintro x h4 - - ⟨f4, o4⟩
  rw [b3, b7] at o4
  have F4 := F.trans (f3.trans f4).r
  have G4 : h4 m 23 = h0 m 23 := (f4.2 23 (by omega)).trans ((f3.2 23 (by omega)).trans G)
  cases hT : pHT (S.1, S.2.1, nx S.2.2) with
  | inl q =>
    rw [hT] at o4
    obtain ⟨rfl, o5, o6⟩ := o4
    refine ⟨fun z => absurd rfl z, fun _ => ?_⟩
    have e : pBody p S = .inl q := by
      unfold pBody
      rw [hT]
      rfl
    rw [am_qI_s, e]
    exact ⟨F4, G4, rfl, o5, o6⟩
  | inr k =>
    rw [hT] at o4
    obtain ⟨rfl, o5, r4⟩ := o4
    have hk := pHT_r (S := (S.1, S.2.1, nx S.2.2)) w hT
    have d3 : h4 (m + 3) = S.1 := (f4.1 _ (by omega)).trans b3
    have S4 : pLS h0 h4 m s n lim p (S.1, S.2.1, nx S.2.2) := ⟨⟨d3, (f4.1 _ (by omega)).trans b7, r4⟩, F4, G4, w, c, e1, hp⟩
    have key : ∀ v : Int, (v = 0 ∧ ¬ hb (S.1 (85 + p).toNat) k) ∨ v = 1 → aw_Md_readPerson_187 (d + 4) Y m p v k h4 (am_qI (rL h0 m s n lim (pEnd1 (pbd (if v = 1 then pNum (S.1, S.2.1, nx (nx S.2.2)) 1 99 (35 + 6 * p + k) else .inr (pNeed S.1 p k, S.2.1, nx (nx S.2.2))) (pLoop f p))))) := fun v hv =>
      body187 (S := (S.1, S.2.1, nx S.2.2)) (K := fun _ => True) hY hc S4 hk (fun e => pEnd1 (pbd e (pLoop f p))) (fun q => rfl) hv (fun h1 S1 hS1 hl => ih h1 S1 hS1 hl)
    rw [o5, d3]
    refine ⟨fun _ => ⟨fun v0 => ⟨⟨by omega, by omega⟩, ⟨by omega, by omega⟩, am_kI.of (ac_m_has (d := 0)) (by omega) ?_⟩, fun v1 => ⟨⟨by omega, by omega⟩, ⟨by omega, by omega⟩, ⟨by omega, by omega⟩, ⟨by omega, by omega⟩, fun w0 => ?_, fun w0 => badK hY r4 (by omega) ?_⟩⟩, fun z => absurd z (by decide)⟩
    · have c2 : ¬ (hd S.2.2).1 = 2 := fun z => by rw [if_pos z] at v0; exact absurd v0 (by decide)
      rintro x h6 - - ⟨rfl, rfl⟩
      by_cases hh : hb (S.1 (85 + p).toNat) k
      · rw [if_pos hh]
        refine ⟨fun z => absurd z (by decide), fun _ => badK hY r4 (by omega) ?_⟩
        intro h9 f9 e10 e11
        have e : pBody p S = pb (nx S.2.2) 3 := by
          unfold pBody
          rw [hT]
          show (if (hd S.2.2).1 = 2 then _ else _) = _
          rw [if_neg c2, if_pos hh]
        rw [e]
        exact rL.bad (F4.trans f9.r) ((f9.2 23 (by omega)).trans G4) e10 e11 rfl
      · rw [if_neg hh]
        refine ⟨fun _ => ?_, fun z => absurd rfl z⟩
        have e : pBody p S = .inr (pNeed S.1 p k, S.2.1, nx (nx S.2.2)) := by
          unfold pBody
          rw [hT]
          show (if (hd S.2.2).1 = 2 then _ else _) = _
          rw [if_neg c2, if_neg hh]
        have t := key 0 (Or.inl ⟨rfl, hh⟩)
        rw [if_neg (by decide)] at t
        rw [if_neg c2, e]
        exact t
    · have c2 : (hd S.2.2).1 = 2 := by
        by_cases z : (hd S.2.2).1 = 2
        · exact z
        · rw [if_neg z] at v1
          exact absurd rfl v1
      have e : pBody p S = pNum (S.1, S.2.1, nx (nx S.2.2)) 1 99 (35 + 6 * p + k) := by
        unfold pBody
        rw [hT]
        show (if (hd S.2.2).1 = 2 then _ else _) = _
        rw [if_pos c2, if_neg (by omega)]
      have t := key 1 (Or.inr rfl)
      rw [if_pos rfl] at t
      rw [if_pos c2, e]
      exact t
    · have c2 : (hd S.2.2).1 = 2 := by
        by_cases z : (hd S.2.2).1 = 2
        · exact z
        · rw [if_neg z] at v1
          exact absurd rfl v1
      intro h9 f9 e10 e11
      have e : pBody p S = pb (nx S.2.2) 3 := by
        unfold pBody
        rw [hT]
        show (if (hd S.2.2).1 = 2 then _ else _) = _
        rw [if_pos c2, if_pos w0]
      rw [e]
      exact rL.bad (F4.trans f9.r) ((f9.2 23 (by omega)).trans G4) e10 e11 rfl
theorem loop98 {h0 : am_H} {p : Int} (hY : am_at Y m am_L12) (hc : MC h0 m s n lim) : ∀ (f : Nat) (h : am_H) (S : VS), S.2.2.length ≤ f → pLS h0 h m s n lim p S → aw_Md_readPerson_98 (d + 4) Y m p h (am_qI (rL h0 m s n lim (pEnd1 (pLoop f p S))))
  | 0, h, S, hl, hS => by
    obtain ⟨⟨a, l, e, -⟩, -⟩ := hS.1.2.2
    rw [e] at hl
    simp at hl
  | f + 1, h, S, hl, hS => by
    have hS' := hS
    obtain ⟨⟨a3, a7, hr⟩, F, G, w, c, e1, hp⟩ := hS'
    have w7 : ((mW.getD (7 : Int).toNat 23 : Nat) : Int) = 2 := by decide
    have w8 : ((mW.getD (8 : Int).toNat 23 : Nat) : Int) = 3 := by decide
    have go : (hd S.2.2).1 = 2 ∨ (hd S.2.2).1 = 3 → aw_Md_readPerson_116 (d + 4) Y m p h (am_qI (rL h0 m s n lim (pEnd1 (pLoop (f + 1) p S)))) := fun hk => by
      have e : pLoop (f + 1) p S = pbd (pBody p S) (pLoop f p) := if_pos hk
      rw [e]
      refine at116 hY hc hS hk fun h1 S1 hS1 hl1 => loop98 hY hc f h1 S1 ?_ hS1
      have := MR_len hr (by omega)
      omega
    refine ab_Md_readPerson_98 hY (wordK hY hr ⟨by omega, by omega⟩ (by omega) ?_)
    rw [w7]
    by_cases c2 : (hd S.2.2).1 = 2
    · rw [if_pos c2]
      exact ⟨fun _ => go (Or.inl c2), fun z => absurd z (by decide)⟩
    · rw [if_neg c2]
      refine ⟨fun z => absurd rfl z, fun _ => wordK hY hr ⟨by omega, by omega⟩ (by omega) ?_⟩
      rw [w8]
      by_cases c3 : (hd S.2.2).1 = 3
      · rw [if_pos c3]
        exact ⟨fun z => absurd z (by decide), fun _ => go (Or.inr c3)⟩
      · rw [if_neg c3]
        refine ⟨fun _ => ⟨by rw [a3]; exact ⟨by omega, by omega⟩, fun h5 x5 => ?_⟩, fun z => absurd rfl z⟩
        have e : pLoop (f + 1) p S = .inr S := if_neg (by omega)
        rw [am_qI_s, e]
        refine ⟨F.trans (x5 ▸ mFr.u3), (by rw [x5]; exact am_u_o (by omega) : h5 m 23 = h m 23).trans G, rfl, ?_, ?_, ?_⟩
        · rw [x5, am_u_up, a3]
        · rw [x5, am_u_n _ _ _ _ _ (by omega), a7]
        · exact hr.but fun j _ _ _ _ => by rw [x5]; exact am_u_o (by omega)
end
