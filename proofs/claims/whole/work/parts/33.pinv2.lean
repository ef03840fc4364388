/-! a village's text, read: what a person's line keeps -/
/-- within a person -/
def wP (R : Nat → Int) (p : Int) : Prop := wr R ∧ co R (p + 1) ∧ R 1 = p ∧ 0 ≤ p ∧ p < 8
theorem pBody_i {S B : VS} {p : Int} (hV : wP S.1 p) (e : pBody p S = .inr B) : wP B.1 p ∧ B.2.2.length ≤ (nx S.2.2).length := by
  obtain ⟨w, c, e1, hp⟩ := hV
  unfold pBody at e
  cases hT : pHT (S.1, S.2.1, nx S.2.2) with
  | inl q => rw [hT] at e; cases e
  | inr k =>
    have hk := pHT_r (S := (S.1, S.2.1, nx S.2.2)) w hT
    simp only [pbd, hT] at e
    simp only at hk
    split at e
    · split at e
      · cases e
      · obtain ⟨v, v1, v2, rfl⟩ := pNum_i e
        refine ⟨⟨wr_up w (by rw [(w_99 (by omega)).1, (w_99 (by omega)).2]; omega), c.up w (by omega), ?_, hp⟩, ?_⟩
        · exact (up_n (by omega)).trans e1
        · have := nx_le (nx S.2.2)
          have := nx_le (nx (nx S.2.2))
          simp only
          omega
    · split at e
      · cases e
      · next hn =>
        cases e
        have h2 := c.lt w hp ⟨hk.1, hk.2.2⟩ hn
        exact ⟨⟨pNeed_wr w h2 hp ⟨hk.1, hk.2.2⟩ hn, pNeed_co c w h2 hp (by omega) ⟨hk.1, hk.2.2⟩ hk.2.1 hn, (pNeed_n h2 hp (by omega) (by omega) (by omega) (by omega)).trans e1, hp⟩, nx_le _⟩
theorem pLoop_i {p : Int} : ∀ (f : Nat) (S B : VS), wP S.1 p → pLoop f p S = .inr B → wP B.1 p ∧ B.2.2.length ≤ S.2.2.length
  | 0, S, B, hV, e => by
    cases e
    exact ⟨hV, Nat.le_refl _⟩
  | f + 1, S, B, hV, e => by
    unfold pLoop at e
    split at e
    · cases hB : pBody p S with
      | inl q => rw [hB] at e; cases e
      | inr A =>
        rw [hB] at e
        have i1 := pBody_i hV hB
        have i2 := pLoop_i f A B i1.1 e
        have := nx_le S.2.2
        exact ⟨i2.1, by omega⟩
    · cases e
      exact ⟨hV, Nat.le_refl _⟩
theorem pPerson_i {S B : VS} (hV : wV S.1) (e : pPerson S = .inr B) : wV B.1 ∧ B.2.2.length ≤ (nx S.2.2).length := by
  obtain ⟨w, c⟩ := hV
  have hz := w.z
  unfold rz at hz
  unfold pPerson at e
  split at e
  · cases e
  · next c8 =>
    cases hA : pNew (S.1, S.2.1, nx S.2.2) (6 + S.1 1) with
    | inl q => rw [hA] at e; cases e
    | inr A =>
      have A1 : A.1 = S.1 := pNew_1 (S := (S.1, S.2.1, nx S.2.2)) hA
      have A2 : A.2.2 = nx (nx S.2.2) := pNew_r (S := (S.1, S.2.1, nx S.2.2)) hA
      rw [hA] at e
      cases hB : pNum A 0 9 (25 + S.1 1) with
      | inl q => simp only [pbd, hB] at e; cases e
      | inr B' =>
        simp only [pbd, hB] at e
        obtain ⟨v, v1, v2, rfl⟩ := pNum_i hB
        rw [A1] at e
        have hb' := beg_w c w ⟨by omega, by omega⟩ ⟨v1, v2⟩
        cases hC : pLoop 1000 (S.1 1) (zer (up (up S.1 (25 + S.1 1).toNat v) (85 + S.1 1).toNat 0) (35 + 6 * S.1 1).toNat 6, A.2.1, nx A.2.2) with
        | inl q => simp only [hC] at e; cases e
        | inr C =>
          simp only [hC] at e
          cases e
          obtain ⟨⟨w3, c3, e3, -⟩, l3⟩ := pLoop_i 1000 _ C ⟨hb'.1, hb'.2.1, hb'.2.2, by omega, by omega⟩ hC
          simp only at l3
          refine ⟨⟨wr_up w3 ?_, ?_⟩, ?_⟩
          · show (0 : Int) ≤ C.1 1 + 1 ∧ C.1 1 + 1 ≤ 8
            omega
          · show co _ (up C.1 1 (C.1 1 + 1) 1)
            rw [up_s, e3]
            exact c3.same (w3 2 (by omega)).2 (Int.le_of_eq (up_n (R := C.1) (i := 0) (j := 1) (x := S.1 1 + 1) (by decide)).symm) (Int.le_refl _) (fun i hi => up_n (by omega))
          · rw [A2] at l3
            have := nx_le (nx S.2.2)
            have := nx_le (nx (nx S.2.2))
            simp only
            omega
theorem pTail_i {g g' : Int} {e : PE VS} {B : VS} (h : pTail g e = .inr (g', B)) : ∃ A, e = .inr A ∧ B.1 = A.1 ∧ B.2.2.length ≤ A.2.2.length := by
  cases e with
  | inl q => cases h
  | inr A =>
    refine ⟨A, rfl, ?_⟩
    unfold pTail pSem at h
    simp only [pbd] at h
    by_cases c : (hd A.2.2).1 = 26
    · rw [if_pos c] at h
      cases h
      exact ⟨rfl, nx_le _⟩
    · rw [if_neg c] at h
      cases h
theorem pLine_i {g g' : Int} {S B : VS} (hV : wV S.1) (e : pLine g S = .inr (g', B)) : wV B.1 ∧ B.2.2.length ≤ (nx S.2.2).length := by
  have key : ∀ (G : Int) (x : PE VS), (∀ A, x = .inr A → wV A.1 ∧ A.2.2.length ≤ (nx S.2.2).length) → pTail G x = .inr (g', B) → wV B.1 ∧ B.2.2.length ≤ (nx S.2.2).length := by
    intro G x hx h
    obtain ⟨A, e1, e2, e3⟩ := pTail_i h
    have := hx A e1
    rw [e2]
    exact ⟨this.1, by omega⟩
  have word : ∀ w : Int, 0 ≤ w ∧ w ≤ 6 → pWord g S w = .inr (g', B) → wV B.1 ∧ B.2.2.length ≤ (nx S.2.2).length := by
    intro w hw h
    unfold pWord at h
    split at h
    · exact key _ _ (fun A hA => pHelp_i hV hA) h
    · split at h
      · exact key _ _ (fun A hA => pPerson_i hV hA) h
      · split at h
        · exact key _ _ (fun A hA => pTie_i (Or.inl rfl) hV hA) h
        · split at h
          · exact key _ _ (fun A hA => pTie_i (Or.inr rfl) hV hA) h
          · exact key _ _ (fun A hA => pOnce_i (by omega) hV hA) h
  unfold pLine at e
  split at e
  · exact word 0 (by omega) e
  · split at e
    · exact word 1 (by omega) e
    · split at e
      · exact word _ (by omega) e
      · cases e
