/-! contracts: the reference's table of values -/
def mP (h : am_H) (m : Nat) (p n law : Int) : bP :=
  (am_wl (am_wl (am_wl (100000 * h (m + 2) (95 + 8 * p + h (m + 2) (225 + 2 * n).toNat).toNat) * h (m + 2) (10 + 2 * h (m + 2) (226 + 2 * n).toNat).toNat) - am_wl (1000000 * h (m + 2) (35 + 6 * p + h (m + 2) (226 + 2 * n).toNat).toNat)),
   am_wl (am_wl (am_wl (am_wl (100000 * h (m + 2) (95 + 8 * p + h (m + 2) (225 + 2 * n).toNat).toNat) * h (m + 2) (10 + 2 * h (m + 2) (226 + 2 * n).toNat).toNat) - am_wl (1000000 * h (m + 2) (35 + 6 * p + h (m + 2) (226 + 2 * n).toNat).toNat)) - am_wl (1000000 * h (m + 2) (11 + 2 * h (m + 2) (226 + 2 * n).toNat).toNat)),
   fPa (fun q => h (m + 2) (160 + 8 * (q : Int) + p).toNat) p, h (m + 2) 3, h (m + 2) 5, h (m + 2) 4, law)
def mset (h h1 : am_H) (m i : Nat) (x a : Int) : Prop := (∀ q, q ≠ m + 18 → q ≠ m + 19 → h1 q = h q) ∧ (∀ j, h1 (m + 18) j = if j = i then x else h (m + 18) j) ∧ (∀ j, h1 (m + 19) j = if j = i then a else h (m + 19) j)
theorem mset_of {h h1 h2 : am_H} {m i : Nat} {x a : Int} (e1 : h1 = am_u h (m + 18) i x) (e2 : h2 = am_u h1 (m + 19) i a) : mset h h2 m i x a := by
  subst e1; subst e2
  refine ⟨fun q q1 q2 => ?_, fun j => ?_, fun j => ?_⟩
  · rw [am_u_n _ _ _ _ q q2, am_u_n _ _ _ _ q q1]
  · rw [am_u_n _ _ _ _ (m + 18) (by omega)]; simp [am_u]
  · simp only [am_u]; simp
def mOK (h : am_H) (m : Nat) (P : bP) (t : Int) : Prop := ∀ (i b : Nat), (i : Int) ≤ t → (b : Int) ≤ P.2.2.2.1 → h (m + 18) (i * 10 + b) = bV P i b ∧ h (m + 19) (i * 10 + b) = bA P i b
section
variable {d : Nat} {Y : am_Y} {h : am_H} {m : Nat}
theorem ac_m_layValues {p n t law : Int} (hY : am_at Y m am_L12) (hp : 0 ≤ p ∧ p < 8) (hn : 0 ≤ n ∧ n < 48) (hk : 0 ≤ h (m + 2) (226 + 2 * n).toNat ∧ h (m + 2) (226 + 2 * n).toNat < 6) (hq : 0 ≤ h (m + 2) (225 + 2 * n).toNat ∧ h (m + 2) (225 + 2 * n).toNat < 8) (hb : 0 ≤ h (m + 2) 3 ∧ h (m + 2) 3 ≤ 9) (ht : 0 ≤ t ∧ t ≤ 20) (hlaw : 0 ≤ law ∧ law ≤ 2) : am_cV am_Md_layValues (d + 2) Y [.inr (.inr m), .inl p, .inl n, .inl t, .inl law] h (fun h1 => (∀ q, q ≠ m + 18 → q ≠ m + 19 → h1 q = h q) ∧ mOK h1 m (mP h m p n law) t) := by
  refine am_Met.of (by decide) rfl (Nat.le_of_ble_eq_true rfl) (ab_Md_layValues_0 hY ?_)
  refine am_kI.of (ac_m_needed (d := d) hY hn) (by omega) ?_
  rintro k h1 - - ⟨rfl, rfl⟩
  refine am_kI.of (ac_m_needy (d := d) hY hn) (by omega) ?_
  rintro w h2 - - ⟨rfl, rfl⟩
  refine am_kI.of (ac_m_friendship (d := d) hY hp hq) (by omega) ?_
  rintro f h3 - - ⟨rfl, rfl⟩
  refine am_kI.of (ac_m_worth (d := d) hY hk) (by omega) ?_
  rintro f h4 - - ⟨rfl, rfl⟩
  refine am_kI.of (ac_m_pains (d := d) hY hp hk) (by omega) ?_
  rintro f h5 - - ⟨rfl, rfl⟩
  refine am_kI.of (ac_m_hide (d := d) hY hk) (by omega) ?_
  rintro f h6 - - ⟨rfl, rfl⟩
  refine am_kI.of (ac_m_foundOf (d := d) hY hp) (by omega) ?_
  rintro f h7 - - ⟨rfl, rfl⟩
  -- the numbers
  have eP : ∀ P, P = mP h7 m p n law → P.2.2.2.1 = h7 (m + 2) 3 ∧ P.2.2.2.2.1 = h7 (m + 2) 5 ∧ P.2.2.2.2.2.1 = h7 (m + 2) 4 ∧ P.2.2.2.2.2.2 = law := by
    intro P e; subst e; exact ⟨rfl, rfl, rfl, rfl⟩
  have hday : (mP h7 m p n law).1 = am_wl (am_wl (am_wl (100000 * h7 (m + 2) (95 + 8 * p + h7 (m + 2) (225 + 2 * n).toNat).toNat) * h7 (m + 2) (10 + 2 * h7 (m + 2) (226 + 2 * n).toNat).toNat) - am_wl (1000000 * h7 (m + 2) (35 + 6 * p + h7 (m + 2) (226 + 2 * n).toNat).toNat)) := rfl
  have hnig : (mP h7 m p n law).2.1 = am_wl (am_wl (am_wl (am_wl (100000 * h7 (m + 2) (95 + 8 * p + h7 (m + 2) (225 + 2 * n).toNat).toNat) * h7 (m + 2) (10 + 2 * h7 (m + 2) (226 + 2 * n).toNat).toNat) - am_wl (1000000 * h7 (m + 2) (35 + 6 * p + h7 (m + 2) (226 + 2 * n).toNat).toNat)) - am_wl (1000000 * h7 (m + 2) (11 + 2 * h7 (m + 2) (226 + 2 * n).toNat).toNat)) := rfl
  have hfnd : (mP h7 m p n law).2.2.1 = fPa (fun q => h7 (m + 2) (160 + 8 * (q : Int) + p).toNat) p := rfl
  rw [← hnig, ← hday, ← hfnd]
  have eP' := eP _ rfl
  generalize mP h7 m p n law = P at eP' ⊢
  clear eP hday hnig hfnd
  obtain ⟨ebi, egi, eou, ela⟩ := eP'
  -- the loop of the years
  have years : ∀ (i : Int) (k : am_H), 1 ≤ i → i ≤ t + 1 → (∀ q, q ≠ m + 18 → q ≠ m + 19 → k q = h7 q) → mOK k m P (i - 1) → aw_Md_layValues_108 (d + 2) Y m t law P.1 P.2.1 P.2.2.1 i k (am_qV (fun h1 => (∀ q, q ≠ m + 18 → q ≠ m + 19 → h1 q = h7 q) ∧ mOK h1 m P t)) := by
    refine am_up (fun i => ∀ (k : am_H), 1 ≤ i → i ≤ t + 1 → (∀ q, q ≠ m + 18 → q ≠ m + 19 → k q = h7 q) → mOK k m P (i - 1) → aw_Md_layValues_108 (d + 2) Y m t law P.1 P.2.1 P.2.2.1 i k (am_qV (fun h1 => (∀ q, q ≠ m + 18 → q ≠ m + 19 → h1 q = h7 q) ∧ mOK h1 m P t))) (t + 1) ?_ ?_
    · intro i hi k g0 g1 g2 g3
      refine ab_Md_layValues_108 hY ?_
      simp only [am_qV_s]
      refine ⟨fun _ => ⟨g2, ?_⟩, fun _ => by omega⟩
      rw [show i - 1 = t by omega] at g3
      exact g3
    · intro i hi ih k g0 g1 g2 g3
      have kR : k (m + 2) = h7 (m + 2) := g2 (m + 2) (by omega) (by omega)
      have hrow : ∀ b : Nat, (b : Int) ≤ P.2.2.2.1 → k (m + 18) (10 * (i - 1) + b).toNat = bV P (i - 1).toNat b := fun b hbb => by
        have := (g3 (i - 1).toNat b (by omega) hbb).1
        rw [show (10 * (i - 1) + (b : Int)).toNat = (i - 1).toNat * 10 + b by omega]
        exact this
      have hr0 : k (m + 18) (10 * (i - 1)).toNat = bV P (i - 1).toNat 0 := by
        have := hrow 0 (by rw [ebi]; omega)
        simpa using this
      -- the bound years
      have bound : ∀ (j : Int) (z : am_H), 1 ≤ j → j ≤ h7 (m + 2) 3 + 1 → (∀ q, q ≠ m + 18 → q ≠ m + 19 → z q = h7 q) → (∀ a : Nat, (a : Int) < j → z (m + 18) (i.toNat * 10 + a) = bV P i.toNat a ∧ z (m + 19) (i.toNat * 10 + a) = bA P i.toNat a) → (∀ a : Nat, a < i.toNat * 10 → z (m + 18) a = k (m + 18) a ∧ z (m + 19) a = k (m + 19) a) → aw_Md_layValues_279 (d + 2) Y m t law P.1 P.2.1 P.2.2.1 i (10 * (i - 1)) (bV P (i - 1).toNat 0) j z (am_qV (fun h1 => (∀ q, q ≠ m + 18 → q ≠ m + 19 → h1 q = h7 q) ∧ mOK h1 m P t)) := by
        refine am_up (fun j => ∀ (z : am_H), 1 ≤ j → j ≤ h7 (m + 2) 3 + 1 → (∀ q, q ≠ m + 18 → q ≠ m + 19 → z q = h7 q) → (∀ a : Nat, (a : Int) < j → z (m + 18) (i.toNat * 10 + a) = bV P i.toNat a ∧ z (m + 19) (i.toNat * 10 + a) = bA P i.toNat a) → (∀ a : Nat, a < i.toNat * 10 → z (m + 18) a = k (m + 18) a ∧ z (m + 19) a = k (m + 19) a) → aw_Md_layValues_279 (d + 2) Y m t law P.1 P.2.1 P.2.2.1 i (10 * (i - 1)) (bV P (i - 1).toNat 0) j z (am_qV (fun h1 => (∀ q, q ≠ m + 18 → q ≠ m + 19 → h1 q = h7 q) ∧ mOK h1 m P t))) (h7 (m + 2) 3 + 1) ?_ ?_
        · intro j hj z c0 c1 c2 c3 c4
          refine ab_Md_layValues_279 hY ?_
          have zR : z (m + 2) = h7 (m + 2) := c2 (m + 2) (by omega) (by omega)
          rw [zR]
          refine ⟨fun _ => ⟨⟨by omega, by omega⟩, ih z (by omega) (by omega) c2 ?_⟩, fun _ => by omega⟩
          intro a b ha hbb
          by_cases hai : (a : Int) = i
          · have : a = i.toNat := by omega
            subst this
            exact c3 b (by rw [ebi] at hbb; omega)
          · have hlt : a * 10 + b < i.toNat * 10 := by rw [ebi] at hbb; omega
            rw [(c4 _ hlt).1, (c4 _ hlt).2]
            exact g3 a b (by omega) hbb
        · intro j hj ihj z c0 c1 c2 c3 c4
          refine ab_Md_layValues_279 hY ?_
          have zR : z (m + 2) = h7 (m + 2) := c2 (m + 2) (by omega) (by omega)
          have eS : am_wl (P.1 + z (m + 18) (10 * (i - 1) + j - 1).toNat) = bS P (bV P (i - 1).toNat) j.toNat := by
            unfold bS
            have := hrow (j.toNat - 1) (by rw [ebi]; omega)
            rw [show (10 * (i - 1) + j - 1).toNat = (10 * (i - 1) + ((j.toNat - 1 : Nat) : Int)).toNat by omega, (c4 _ (by omega)).1, this]
          have eL : am_wl (bV P (i - 1).toNat 0 - am_wl (1000000 * z (m + 2) 4)) = bL P (bV P (i - 1).toNat) := by
            unfold bL
            rw [zR, eou]
          rw [eS, eL, zR]
          have hj0 : ¬ j.toNat = 0 := by omega
          have es : i.toNat = (i - 1).toNat + 1 := by omega
          -- the end of a turn, whatever was put
          have fin : ∀ (x a : Int) (z1 z2 : am_H), x = max (bS P (bV P (i - 1).toNat) j.toNat) (bL P (bV P (i - 1).toNat)) → a = (if bL P (bV P (i - 1).toNat) ≤ bS P (bV P (i - 1).toNat) j.toNat then 2 else 3) → z1 = am_u z (m + 18) (10 * i + j).toNat x → z2 = am_u z1 (m + 19) (10 * i + j).toNat a → aw_Md_layValues_279 (d + 2) Y m t law P.1 P.2.1 P.2.2.1 i (10 * (i - 1)) (bV P (i - 1).toNat 0) (j + 1) z2 (am_qV (fun h1 => (∀ q, q ≠ m + 18 → q ≠ m + 19 → h1 q = h7 q) ∧ mOK h1 m P t)) := by
            intro x a z1 z2 ex ea e1 e2
            have gs := mset_of e1 e2
            refine ihj z2 (by omega) (by omega) (fun q q1 q2 => (gs.1 q q1 q2).trans (c2 q q1 q2)) (fun a' ha => ?_) (fun a' ha => ?_)
            · rw [gs.2.1, gs.2.2]
              by_cases haj : (a' : Int) = j
              · have : a' = j.toNat := by omega
                subst this
                rw [if_pos (by omega), if_pos (by omega), ex, ea, es, bV_s, bA_s, if_neg hj0, if_neg hj0]
                exact ⟨rfl, rfl⟩
              · rw [if_neg (by omega), if_neg (by omega)]
                exact c3 a' (by omega)
            · rw [gs.2.1, gs.2.2, if_neg (by omega), if_neg (by omega)]
              exact c4 a' ha
          generalize bS P (bV P (i - 1).toNat) j.toNat = S at fin ⊢
          generalize bL P (bV P (i - 1).toNat) = L at fin ⊢
          have c279 : 0 ≤ 10 * i + j ∧ 10 * i + j < 210 := by omega
          have a1 : am_ri (10 * i) := ⟨by omega, by omega⟩
          have a2 : am_ri (10 * i + j) := ⟨by omega, by omega⟩
          have a3 : am_ri (j + 1) := ⟨by omega, by omega⟩
          refine ⟨fun _ => by omega, fun _ => ⟨⟨by omega, by omega⟩, ⟨by omega, by omega⟩, ⟨by omega, by omega⟩, a1, a2, fun s1 => ?_, fun s1 => ?_, fun s1 => ?_⟩⟩
          · exact ⟨c279, fun z1 e1 => ⟨a1, a2, fun s2 => ⟨c279, fun z2 e2 => ⟨a3, fin _ _ z1 z2 (by omega) (by rw [if_pos (by omega)]) e1 e2⟩⟩, fun s2 => by omega, fun s2 => by omega⟩⟩
          · exact ⟨c279, fun z1 e1 => ⟨a1, a2, fun s2 => by omega, fun s2 => ⟨c279, fun z2 e2 => ⟨a3, fin _ _ z1 z2 (by omega) (by rw [if_pos (by omega)]) e1 e2⟩⟩, fun s2 => by omega⟩⟩
          · exact ⟨c279, fun z1 e1 => ⟨a1, a2, fun s2 => by omega, fun s2 => by omega, fun s2 => ⟨c279, fun z2 e2 => ⟨a3, fin _ _ z1 z2 (by omega) (by rw [if_neg (by omega)]) e1 e2⟩⟩⟩⟩
      -- what is put at b 0
      have put0 : ∀ (z1 z2 : am_H), z1 = am_u k (m + 18) (10 * i).toNat (bF P (bV P (i - 1).toNat)) → z2 = am_u z1 (m + 19) (10 * i).toNat (bFa P (bV P (i - 1).toNat)) → aw_Md_layValues_279 (d + 2) Y m t law P.1 P.2.1 P.2.2.1 i (10 * (i - 1)) (bV P (i - 1).toNat 0) 1 z2 (am_qV (fun h1 => (∀ q, q ≠ m + 18 → q ≠ m + 19 → h1 q = h7 q) ∧ mOK h1 m P t)) := by
        intro z1 z2 e1 e2
        have gs := mset_of e1 e2
        refine bound 1 z2 (by omega) (by omega) (fun q q1 q2 => (gs.1 q q1 q2).trans (g2 q q1 q2)) (fun a ha => ?_) (fun a ha => ?_)
        · have : a = 0 := by omega
          subst this
          have es : i.toNat = (i - 1).toNat + 1 := by omega
          rw [gs.2.1, gs.2.2, if_pos (by omega), if_pos (by omega), es, bV_s, bA_s, if_pos rfl, if_pos rfl]
          exact ⟨rfl, rfl⟩
        · rw [gs.2.1, gs.2.2, if_neg (by omega), if_neg (by omega)]
          exact ⟨rfl, rfl⟩
      have a1 : am_ri (10 * i) := ⟨by omega, by omega⟩
      have a2 : 0 ≤ 10 * i ∧ 10 * i < 210 := by omega
      -- by day
      have k231 : ∀ (B D : Int), B = bM P (bV P (i - 1).toNat) → D = (if bV P (i - 1).toNat 0 < bN P (bV P (i - 1).toNat) then 1 else 0) → aw_Md_layValues_231 (d + 2) Y m t law P.1 P.2.1 P.2.2.1 i (10 * (i - 1)) (bV P (i - 1).toNat 0) (bX P (bV P (i - 1).toNat)) B D k (am_qV (fun h1 => (∀ q, q ≠ m + 18 → q ≠ m + 19 → h1 q = h7 q) ∧ mOK h1 m P t)) := by
        intro B D eB eD
        refine ab_Md_layValues_231 hY ?_
        have eF : bF P (bV P (i - 1).toNat) = if B < am_wl (P.1 + bX P (bV P (i - 1).toNat)) then am_wl (P.1 + bX P (bV P (i - 1).toNat)) else B := by unfold bF; rw [eB]
        have eFa : bFa P (bV P (i - 1).toNat) = if B < am_wl (P.1 + bX P (bV P (i - 1).toNat)) then 2 else D := by unfold bFa; rw [eB, eD]
        rw [eF, eFa] at put0
        generalize am_wl (P.1 + bX P (bV P (i - 1).toNat)) = E at put0 ⊢
        refine ⟨fun s => ⟨a1, a2, fun z1 e1 => ⟨a1, a2, fun z2 e2 => ?_⟩⟩, fun s => ⟨a1, a2, fun z1 e1 => ⟨a1, a2, fun z2 e2 => ?_⟩⟩, fun s => ⟨a1, a2, fun z1 e1 => ⟨a1, a2, fun z2 e2 => ?_⟩⟩⟩
        · rw [if_pos s, if_pos s] at put0
          exact put0 z1 z2 e1 e2
        · rw [if_neg (by omega), if_neg (by omega)] at put0
          exact put0 z1 z2 e1 e2
        · rw [if_neg (by omega), if_neg (by omega)] at put0
          exact put0 z1 z2 e1 e2
      -- by night
      have k179 : aw_Md_layValues_179 (d + 2) Y m t law P.1 P.2.1 P.2.2.1 i (10 * (i - 1)) (bV P (i - 1).toNat 0) (bX P (bV P (i - 1).toNat)) k (am_qV (fun h1 => (∀ q, q ≠ m + 18 → q ≠ m + 19 → h1 q = h7 q) ∧ mOK h1 m P t)) := by
        refine ab_Md_layValues_179 hY ⟨by decide, am_tdr (am_wlr _), by decide, am_tdr (am_wlr _), ?_⟩
        have eN : am_wl (am_wl (P.2.1 + (am_wl (bX P (bV P (i - 1).toNat) * P.2.2.1)).tdiv 10000000) + (am_wl (bV P (i - 1).toNat 0 * am_wl (10000000 - P.2.2.1))).tdiv 10000000) = bN P (bV P (i - 1).toNat) := rfl
        rw [eN]
        refine ⟨fun s => k231 _ _ ?_ ?_, fun s => k231 _ _ ?_ ?_, fun s => k231 _ _ ?_ ?_⟩
        · unfold bM; rw [if_pos s]
        · rw [if_pos s]
        · unfold bM; rw [if_neg (by omega)]
        · rw [if_neg (by omega)]
        · unfold bM; rw [if_neg (by omega)]
        · rw [if_neg (by omega)]
      refine ab_Md_layValues_108 hY ?_
      rw [kR, hr0]
      refine ⟨fun _ => by omega, fun _ => ⟨⟨by omega, by omega⟩, ⟨by omega, by omega⟩, by omega, fun c0 => ⟨fun c1 => ?_, fun c1 => ?_⟩, fun c0 => ⟨⟨by omega, by omega⟩, by omega, ?_⟩⟩⟩
      · have e : bX P (bV P (i - 1).toNat) = am_wl (bV P (i - 1).toNat 0 + am_wl (1000000 * h7 (m + 2) 5)) := by
          unfold bX
          rw [ela, if_neg c0, if_pos (by omega), egi]
        rw [e] at k179
        exact k179
      · have e : bX P (bV P (i - 1).toNat) = bV P (i - 1).toNat 0 := by
          unfold bX
          rw [ela, if_neg c0, if_neg (by omega)]
        rw [e] at k179
        exact k179
      · have e : bX P (bV P (i - 1).toNat) = k (m + 18) (10 * (i - 1) + h7 (m + 2) 3).toNat := by
          unfold bX
          rw [ela, if_pos c0, ebi]
          have := hrow (h7 (m + 2) 3).toNat (by rw [ebi]; omega)
          rw [Int.toNat_of_nonneg hb.1] at this
          exact this.symm
        rw [e] at k179
        exact k179
  -- the first row
  refine am_up (fun j => ∀ z : am_H, 0 ≤ j → j ≤ h7 (m + 2) 3 + 1 → (∀ q, q ≠ m + 18 → q ≠ m + 19 → z q = h7 q) → (∀ a : Nat, (a : Int) < j → z (m + 18) a = 0 ∧ z (m + 19) a = 0) → aw_Md_layValues_72 (d + 2) Y m t law P.1 P.2.1 P.2.2.1 j z (am_qV (fun h1 => (∀ q, q ≠ m + 18 → q ≠ m + 19 → h1 q = h7 q) ∧ mOK h1 m P t))) (h7 (m + 2) 3 + 1) ?_ ?_ 0 h7 (by omega) (by omega) (fun q _ _ => rfl) (fun a ha => by omega)
  · intro j hj z c0 c1 c2 c3
    refine ab_Md_layValues_72 hY ?_
    rw [c2 (m + 2) (by omega) (by omega)]
    refine ⟨fun _ => years 1 z (by omega) (by omega) c2 ?_, fun _ => by omega⟩
    intro a b ha hbb
    have : a = 0 := by omega
    subst this
    have := c3 (0 * 10 + b) (by rw [ebi] at hbb; omega)
    rw [this.1, this.2]
    exact ⟨rfl, rfl⟩
  · intro j hj ihj z c0 c1 c2 c3
    refine ab_Md_layValues_72 hY ?_
    rw [c2 (m + 2) (by omega) (by omega)]
    refine ⟨fun _ => by omega, fun _ => ⟨by omega, fun z1 e1 => ⟨by omega, fun z2 e2 => ⟨⟨by omega, by omega⟩, ?_⟩⟩⟩⟩
    have gs := mset_of e1 e2
    refine ihj z2 (by omega) (by omega) (fun q q1 q2 => (gs.1 q q1 q2).trans (c2 q q1 q2)) (fun a ha => ?_)
    rw [gs.2.1, gs.2.2]
    by_cases haj : (a : Int) = j
    · rw [if_pos (by omega), if_pos (by omega)]; exact ⟨rfl, rfl⟩
    · rw [if_neg (by omega), if_neg (by omega)]; exact c3 a (by omega)
end
