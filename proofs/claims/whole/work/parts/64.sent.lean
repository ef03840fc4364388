/-! a sentence, read: pure: nodes, ones, tokens; what it says -/
abbrev SS := List LN × Int × List TK
def slay (S : SS) (n : LN) : SS × Int := ((S.1 ++ [n], S.2), (S.1.length : Int))
def sCmp (x : Int) (S : SS) : PE (SS × Int) := if (hd S.2.2).1 = 27 ∨ (hd S.2.2).1 = 28 ∨ (hd S.2.2).1 = 29 then pbd (pN (nx S.2.2) 0 999) fun v => .inr (slay (S.1, S.2.1, v.2) (6, x, v.1, (hd S.2.2).1 + 33)) else pb S.2.2 1
/-- 0 a ONE, 1 an ALL, 2 what goes on behind 'and', 3 a COND, 4 what goes on behind 'or' -/
def sP : Nat → Nat → Int → Int → SS → PE (SS × Int)
  | 0, _, _, _, S => .inr (S, 0)
  | k + 1, t, w, a, S =>
    if t = 0 then
      (if ¬ ((hd S.2.2).1 = 30 ∨ 16 ≤ (hd S.2.2).1 ∧ (hd S.2.2).1 ≤ 23) then pb S.2.2 1
      else if S.2.1 = 20 ∨ w = 8 then pb S.2.2 4
      else if (hd S.2.2).1 = 30 then pbd (sP k 3 (w + 1) 0 (S.1, S.2.1 + 1, nx S.2.2)) fun T => if (hd T.1.2.2).1 = 31 then .inr ((T.1.1, T.1.2.1, nx T.1.2.2), T.2) else pb T.1.2.2 1
      else if (hd S.2.2).1 = 16 then pbd (sP k 0 (w + 1) 0 (S.1, S.2.1 + 1, nx S.2.2)) fun T => .inr (slay T.1 (1, T.2, 0, 0))
      else if (hd S.2.2).1 = 17 then .inr (slay (S.1, S.2.1 + 1, nx S.2.2) (4, 0, 0, 0))
      else if (hd S.2.2).1 = 18 then .inr (slay (S.1, S.2.1 + 1, nx S.2.2) (5, 0, 0, 0))
      else sCmp ((hd S.2.2).1 - 19) (S.1, S.2.1 + 1, nx S.2.2))
    else if t = 1 then pbd (sP k 0 w 0 S) fun T => sP k 2 w T.2 T.1
    else if t = 2 then (if (hd S.2.2).1 = 15 then pbd (sP k 0 w 0 (S.1, S.2.1, nx S.2.2)) fun T => sP k 2 w (slay T.1 (2, a, T.2, 0)).2 (slay T.1 (2, a, T.2, 0)).1 else .inr (S, a))
    else if t = 3 then pbd (sP k 1 w 0 S) fun T => sP k 4 w T.2 T.1
    else (if (hd S.2.2).1 = 14 then pbd (sP k 1 w 0 (S.1, S.2.1, nx S.2.2)) fun T => sP k 4 w (slay T.1 (3, a, T.2, 0)).2 (slay T.1 (3, a, T.2, 0)).1 else .inr (S, a))
def pSen (r : List TK) : PE (SS × Int) := pbd (sP 6009 3 0 0 ([], 0, r)) fun T => if (hd T.1.2.2).1 = 32 then .inr T else pb T.1.2.2 1
/-- nodes speak of nodes ahead of them -/
def sOK (nl : List LN) : Prop := ∀ (i : Nat) (n : LN), nl[i]? = some n → (1 ≤ n.1 ∧ n.1 ≤ 6) ∧ (n.1 = 1 → 0 ≤ n.2.1 ∧ n.2.1 < i) ∧ (n.1 = 2 ∨ n.1 = 3 → 0 ≤ n.2.1 ∧ n.2.1 < i ∧ 0 ≤ n.2.2.1 ∧ n.2.2.1 < i) ∧ (n.1 = 6 → 0 ≤ n.2.1 ∧ n.2.1 ≤ 4 ∧ (n.2.2.2 = 60 ∨ n.2.2.2 = 61 ∨ n.2.2.2 = 62))
def sPo (t : Nat) (S : SS) (T : SS × Int) : Prop := (∃ l, T.1.1 = S.1 ++ l) ∧ sOK T.1.1 ∧ 0 ≤ T.2 ∧ T.2 < T.1.1.length ∧ T.1.2.1 ≤ 20 ∧ S.2.1 ≤ T.1.2.1 ∧ 2 * S.2.1 - S.1.length + (if t = 2 ∨ t = 4 then 0 else 1) ≤ 2 * T.1.2.1 - T.1.1.length ∧ T.1.2.2.length + (if t = 2 ∨ t = 4 then 0 else 1) ≤ S.2.2.length ∧ tE T.1.2.2
theorem sOK_add {nl : List LN} {n : LN} (h : sOK nl) (a : 1 ≤ n.1 ∧ n.1 ≤ 6) (b : n.1 = 1 → 0 ≤ n.2.1 ∧ n.2.1 < nl.length) (c : n.1 = 2 ∨ n.1 = 3 → 0 ≤ n.2.1 ∧ n.2.1 < nl.length ∧ 0 ≤ n.2.2.1 ∧ n.2.2.1 < nl.length) (d : n.1 = 6 → 0 ≤ n.2.1 ∧ n.2.1 ≤ 4 ∧ (n.2.2.2 = 60 ∨ n.2.2.2 = 61 ∨ n.2.2.2 = 62)) : sOK (nl ++ [n]) := by
  intro i m e
  by_cases hi : i < nl.length
  · rw [List.getElem?_append_left hi] at e
    exact h i m e
  · rw [List.getElem?_append_right (by omega)] at e
    have hl := (List.getElem?_eq_some_iff.mp e).1
    simp at hl
    have hi2 : i = nl.length := by omega
    subst hi2
    simp at e
    subst e
    exact ⟨a, b, c, d⟩
theorem sOK_one {nl : List LN} {x : Int} (h : sOK nl) (a : 0 ≤ x) (b : x < nl.length) : sOK (nl ++ [(1, x, 0, 0)]) := by
  refine sOK_add h ⟨?_, ?_⟩ (fun _ => ⟨a, b⟩) (fun z => ?_) (fun z => ?_)
  all_goals dsimp only at *
  all_goals omega
theorem sOK_two {nl : List LN} {k x y : Int} (h : sOK nl) (hk : k = 2 ∨ k = 3) (a : 0 ≤ x) (b : x < nl.length) (c : 0 ≤ y) (d : y < nl.length) : sOK (nl ++ [(k, x, y, 0)]) := by
  refine sOK_add h ⟨?_, ?_⟩ (fun z => ?_) (fun z => ⟨a, b, c, d⟩) (fun z => ?_)
  all_goals dsimp only at *
  all_goals omega
theorem tE_ne {r : List TK} (h : tE r) : 0 < r.length := by
  obtain ⟨a, e, -⟩ := h
  cases r with
  | nil => simp at e
  | cons b l => simp
theorem slay_len (S : SS) (n : LN) : ((slay S n).1.1.length : Int) = S.1.length + 1 := by
  unfold slay
  simp
theorem sP_i : ∀ (k t : Nat) (w a : Int) (S : SS) (T : SS × Int), t ≤ 4 → 6 * S.2.2.length + t ≤ k → tE S.2.2 → sOK S.1 → S.2.1 ≤ 20 → (t = 2 ∨ t = 4 → 0 ≤ a ∧ a < S.1.length) → sP k t w a S = .inr T → sPo t S T
  | 0, t, w, a, S, T, ht, hk, te, ok, h20, ha, e => by
    have := tE_ne te
    omega
  | k + 1, t, w, a, S, T, ht, hk, te, ok, h20, ha, e => by
    have ne := tE_ne te
    have ih := fun t w a S T => sP_i k t w a S T
    unfold sP at e
    by_cases t0 : t = 0
    · subst t0
      rw [if_pos rfl] at e
      split at e
      · cases e
      · next c1 =>
        split at e
        · cases e
        · next c2 =>
          have len := te.len (by omega)
          split at e
          · cases h1 : sP k 3 (w + 1) 0 (S.1, S.2.1 + 1, nx S.2.2) with
            | inl q => rw [h1] at e; cases e
            | inr U =>
              rw [h1] at e
              obtain ⟨⟨l, i1⟩, i2, i3, i4, i5, i6, i7, i8, i9⟩ := ih 3 _ _ (S.1, S.2.1 + 1, nx S.2.2) U (by omega) (by show 6 * (nx S.2.2).length + _ ≤ k; omega) te.n1 ok (by show S.2.1 + 1 ≤ 20; omega) (by omega) h1
              have e' : (if (hd U.1.2.2).1 = 31 then .inr ((U.1.1, U.1.2.1, nx U.1.2.2), U.2) else pb U.1.2.2 1 : PE (SS × Int)) = .inr T := e
              split at e'
              · cases e'
                have l9 := nx_le U.1.2.2
                dsimp only at i1 i6 i7 i8
                exact ⟨⟨l, i1⟩, i2, i3, i4, i5, by dsimp only; omega, by dsimp only; simp only [if_neg (show ¬ (0 = 2 ∨ 0 = 4) by omega), if_neg (show ¬ (3 = 2 ∨ 3 = 4) by omega)] at i7 ⊢; omega, by dsimp only; simp only [if_neg (show ¬ (0 = 2 ∨ 0 = 4) by omega), if_neg (show ¬ (3 = 2 ∨ 3 = 4) by omega)] at i8 ⊢; omega, i9.n1⟩
              · cases e'
          · split at e
            · cases h1 : sP k 0 (w + 1) 0 (S.1, S.2.1 + 1, nx S.2.2) with
              | inl q => rw [h1] at e; cases e
              | inr U =>
                rw [h1] at e
                obtain ⟨⟨l, i1⟩, i2, i3, i4, i5, i6, i7, i8, i9⟩ := ih 0 _ _ (S.1, S.2.1 + 1, nx S.2.2) U (by omega) (by show 6 * (nx S.2.2).length + _ ≤ k; omega) te.n1 ok (by show S.2.1 + 1 ≤ 20; omega) (by omega) h1
                cases e
                dsimp only at i1 i6 i7 i8
                simp only [if_neg (show ¬ (0 = 2 ∨ 0 = 4) by omega)] at i7 i8
                have sl := slay_len U.1 (1, U.2, 0, 0)
                refine ⟨⟨l ++ [(1, U.2, 0, 0)], ?_⟩, sOK_one i2 i3 i4, ?_, ?_, ?_, ?_, ?_, ?_, i9⟩
                · show U.1.1 ++ _ = _
                  rw [i1, List.append_assoc]
                · show (0 : Int) ≤ (U.1.1.length : Int)
                  omega
                · show (U.1.1.length : Int) < _
                  rw [sl]; omega
                · exact i5
                · show S.2.1 ≤ U.1.2.1
                  omega
                · rw [sl]
                  show 2 * S.2.1 - _ + _ ≤ 2 * U.1.2.1 - _
                  simp only [if_neg (show ¬ (0 = 2 ∨ 0 = 4) by omega)]
                  omega
                · show U.1.2.2.length + _ ≤ _
                  simp only [if_neg (show ¬ (0 = 2 ∨ 0 = 4) by omega)]
                  omega
            · -- those without an inner one
              have leaf : ∀ (n : LN) (r' : List TK), T = slay (S.1, S.2.1 + 1, r') n → (1 ≤ n.1 ∧ n.1 ≤ 6) → ¬ n.1 = 1 → ¬ (n.1 = 2 ∨ n.1 = 3) → (n.1 = 6 → 0 ≤ n.2.1 ∧ n.2.1 ≤ 4 ∧ (n.2.2.2 = 60 ∨ n.2.2.2 = 61 ∨ n.2.2.2 = 62)) → r'.length + 1 ≤ S.2.2.length → tE r' → sPo 0 S T := by
                intro n r' eT n1 n2 n3 n4 hr hte
                subst eT
                have sl := slay_len (S.1, S.2.1 + 1, r') n
                refine ⟨⟨[n], rfl⟩, sOK_add ok n1 (fun z => absurd z n2) (fun z => absurd z n3) n4, ?_, ?_, ?_, ?_, ?_, ?_, hte⟩
                · show (0 : Int) ≤ (S.1.length : Int)
                  omega
                · show (S.1.length : Int) < _
                  rw [sl]; dsimp only; omega
                · show S.2.1 + 1 ≤ 20
                  omega
                · show S.2.1 ≤ S.2.1 + 1
                  omega
                · rw [sl]
                  show 2 * S.2.1 - _ + _ ≤ 2 * (S.2.1 + 1) - _
                  simp only [if_neg (show ¬ (0 = 2 ∨ 0 = 4) by omega)]
                  omega
                · show r'.length + _ ≤ _
                  simp only [if_neg (show ¬ (0 = 2 ∨ 0 = 4) by omega)]
                  omega
              split at e
              · cases e
                exact leaf (4, 0, 0, 0) _ rfl ⟨by decide, by decide⟩ (by decide) (by decide) (fun z => absurd z (by decide)) (by omega) te.n1
              · split at e
                · cases e
                  exact leaf (5, 0, 0, 0) _ rfl ⟨by decide, by decide⟩ (by decide) (by decide) (fun z => absurd z (by decide)) (by omega) te.n1
                · next c17 c18 =>
                  unfold sCmp at e
                  split at e
                  · next ck =>
                    dsimp only at ck e
                    cases hB : pN (nx (nx S.2.2)) 0 999 with
                    | inl q => rw [hB] at e; cases e
                    | inr B =>
                      rw [hB] at e
                      have pn := pN_r hB
                      cases e
                      have l2 := nx_le (nx S.2.2)
                      have l3 := nx_le (nx (nx S.2.2))
                      refine leaf (6, (hd S.2.2).1 - 19, B.1, (hd (nx S.2.2)).1 + 33) B.2 rfl ⟨by show (1 : Int) ≤ 6; omega, by show (6 : Int) ≤ 6; omega⟩ (by show ¬ (6 : Int) = 1; omega) (by show ¬ ((6 : Int) = 2 ∨ (6 : Int) = 3); omega) (fun _ => ⟨?_, ?_, ?_⟩) (by rw [pn.1]; omega) (by rw [pn.1]; exact te.n1.n1.n1)
                      · dsimp only; omega
                      · dsimp only; omega
                      · dsimp only; omega
                  · cases e
    · rw [if_neg t0] at e
      by_cases t1 : t = 1
      · subst t1
        rw [if_pos rfl] at e
        cases h1 : sP k 0 w 0 S with
        | inl q => rw [h1] at e; cases e
        | inr U =>
          rw [h1] at e
          obtain ⟨⟨l, i1⟩, i2, i3, i4, i5, i6, i7, i8, i9⟩ := ih 0 _ _ _ U (by omega) (by omega) te ok h20 (by omega) h1
          simp only [if_neg (show ¬ (0 = 2 ∨ 0 = 4) by omega)] at i7 i8
          have e' : sP k 2 w U.2 U.1 = .inr T := e
          obtain ⟨⟨l', j1⟩, j2, j3, j4, j5, j6, j7, j8, j9⟩ := ih 2 _ _ _ T (by omega) (by omega) i9 i2 i5 (fun _ => ⟨i3, i4⟩) e'
          simp only [if_pos (show (2 = 2 ∨ 2 = 4) by omega)] at j7 j8
          refine ⟨⟨l ++ l', by rw [j1, i1, List.append_assoc]⟩, j2, j3, j4, j5, by omega, ?_, ?_, j9⟩
          · simp only [if_neg (show ¬ (1 = 2 ∨ 1 = 4) by omega)]; omega
          · simp only [if_neg (show ¬ (1 = 2 ∨ 1 = 4) by omega)]; omega
      · rw [if_neg t1] at e
        by_cases t2 : t = 2
        · subst t2
          rw [if_pos rfl] at e
          split at e
          · next c15 =>
            have len := te.len (by omega)
            cases h1 : sP k 0 w 0 (S.1, S.2.1, nx S.2.2) with
            | inl q => rw [h1] at e; cases e
            | inr U =>
              rw [h1] at e
              obtain ⟨⟨l, i1⟩, i2, i3, i4, i5, i6, i7, i8, i9⟩ := ih 0 _ _ (S.1, S.2.1, nx S.2.2) U (by omega) (by show 6 * (nx S.2.2).length + _ ≤ k; omega) te.n1 ok h20 (by omega) h1
              dsimp only at i1 i6 i7 i8
              simp only [if_neg (show ¬ (0 = 2 ∨ 0 = 4) by omega)] at i7 i8
              have hal := ha (Or.inl rfl)
              have ul : (S.1.length : Int) ≤ U.1.1.length := by rw [i1, List.length_append]; omega
              have sl := slay_len U.1 (2, a, U.2, 0)
              have e' : sP k 2 w (slay U.1 (2, a, U.2, 0)).2 (slay U.1 (2, a, U.2, 0)).1 = .inr T := e
              obtain ⟨⟨l', j1⟩, j2, j3, j4, j5, j6, j7, j8, j9⟩ := ih 2 _ _ (slay U.1 (2, a, U.2, 0)).1 T (by omega) (by show 6 * U.1.2.2.length + 2 ≤ k; omega) i9 (sOK_two i2 (by omega) hal.1 (by omega) i3 i4) i5 (fun _ => ⟨by show (0 : Int) ≤ (U.1.1.length : Int); omega, by rw [sl]; show (U.1.1.length : Int) < _; omega⟩) e'
              have j1' : T.1.1 = U.1.1 ++ [(2, a, U.2, 0)] ++ l' := j1
              have j6' : U.1.2.1 ≤ T.1.2.1 := j6
              have j8' : T.1.2.2.length + 0 ≤ U.1.2.2.length := by rw [if_pos (by omega)] at j8; exact j8
              rw [sl] at j7
              have j7' : 2 * U.1.2.1 - ((U.1.1.length : Int) + 1) + 0 ≤ 2 * T.1.2.1 - T.1.1.length := j7
              refine ⟨⟨l ++ [(2, a, U.2, 0)] ++ l', by rw [j1', i1, List.append_assoc, List.append_assoc, List.append_assoc]⟩, j2, j3, j4, j5, by omega, ?_, ?_, j9⟩
              · rw [if_pos (show (2 = 2 ∨ 2 = 4) by omega)]; rw [if_pos (show (2 = 2 ∨ 2 = 4) by omega)] at j7; omega
              · rw [if_pos (show (2 = 2 ∨ 2 = 4) by omega)]; rw [if_pos (show (2 = 2 ∨ 2 = 4) by omega)] at j8; omega
          · cases e
            have hal := ha (Or.inl rfl)
            exact ⟨⟨[], by simp⟩, ok, hal.1, hal.2, h20, Int.le_refl _, by show 2 * S.2.1 - (S.1.length : Int) + (if (2 = 2 ∨ 2 = 4) then 0 else 1) ≤ 2 * S.2.1 - (S.1.length : Int); rw [if_pos (by omega)]; omega, by show S.2.2.length + (if (2 = 2 ∨ 2 = 4) then 0 else 1) ≤ S.2.2.length; rw [if_pos (by omega)]; omega, te⟩
        · rw [if_neg t2] at e
          by_cases t3 : t = 3
          · subst t3
            rw [if_pos rfl] at e
            cases h1 : sP k 1 w 0 S with
            | inl q => rw [h1] at e; cases e
            | inr U =>
              rw [h1] at e
              obtain ⟨⟨l, i1⟩, i2, i3, i4, i5, i6, i7, i8, i9⟩ := ih 1 _ _ _ U (by omega) (by omega) te ok h20 (by omega) h1
              simp only [if_neg (show ¬ (1 = 2 ∨ 1 = 4) by omega)] at i7 i8
              have e' : sP k 4 w U.2 U.1 = .inr T := e
              obtain ⟨⟨l', j1⟩, j2, j3, j4, j5, j6, j7, j8, j9⟩ := ih 4 _ _ _ T (by omega) (by omega) i9 i2 i5 (fun _ => ⟨i3, i4⟩) e'
              simp only [if_pos (show (4 = 2 ∨ 4 = 4) by omega)] at j7 j8
              refine ⟨⟨l ++ l', by rw [j1, i1, List.append_assoc]⟩, j2, j3, j4, j5, by omega, ?_, ?_, j9⟩
              · simp only [if_neg (show ¬ (3 = 2 ∨ 3 = 4) by omega)]; omega
              · simp only [if_neg (show ¬ (3 = 2 ∨ 3 = 4) by omega)]; omega
          · rw [if_neg t3] at e
            have t4 : t = 4 := by omega
            subst t4
            split at e
            · next c14 =>
              have len := te.len (by omega)
              cases h1 : sP k 1 w 0 (S.1, S.2.1, nx S.2.2) with
              | inl q => rw [h1] at e; cases e
              | inr U =>
                rw [h1] at e
                obtain ⟨⟨l, i1⟩, i2, i3, i4, i5, i6, i7, i8, i9⟩ := ih 1 _ _ (S.1, S.2.1, nx S.2.2) U (by omega) (by show 6 * (nx S.2.2).length + _ ≤ k; omega) te.n1 ok h20 (by omega) h1
                dsimp only at i1 i6 i7 i8
                simp only [if_neg (show ¬ (1 = 2 ∨ 1 = 4) by omega)] at i7 i8
                have hal := ha (Or.inr rfl)
                have ul : (S.1.length : Int) ≤ U.1.1.length := by rw [i1, List.length_append]; omega
                have sl := slay_len U.1 (3, a, U.2, 0)
                have e' : sP k 4 w (slay U.1 (3, a, U.2, 0)).2 (slay U.1 (3, a, U.2, 0)).1 = .inr T := e
                obtain ⟨⟨l', j1⟩, j2, j3, j4, j5, j6, j7, j8, j9⟩ := ih 4 _ _ (slay U.1 (3, a, U.2, 0)).1 T (by omega) (by show 6 * U.1.2.2.length + 4 ≤ k; omega) i9 (sOK_two i2 (by omega) hal.1 (by omega) i3 i4) i5 (fun _ => ⟨by show (0 : Int) ≤ (U.1.1.length : Int); omega, by rw [sl]; show (U.1.1.length : Int) < _; omega⟩) e'
                have j1' : T.1.1 = U.1.1 ++ [(3, a, U.2, 0)] ++ l' := j1
                have j6' : U.1.2.1 ≤ T.1.2.1 := j6
                have j8' : T.1.2.2.length + 0 ≤ U.1.2.2.length := by rw [if_pos (by omega)] at j8; exact j8
                rw [sl] at j7
                have j7' : 2 * U.1.2.1 - ((U.1.1.length : Int) + 1) + 0 ≤ 2 * T.1.2.1 - T.1.1.length := j7
                refine ⟨⟨l ++ [(3, a, U.2, 0)] ++ l', by rw [j1', i1, List.append_assoc, List.append_assoc, List.append_assoc]⟩, j2, j3, j4, j5, by omega, ?_, ?_, j9⟩
                · rw [if_pos (show (4 = 2 ∨ 4 = 4) by omega)]; rw [if_pos (show (4 = 2 ∨ 4 = 4) by omega)] at j7; omega
                · rw [if_pos (show (4 = 2 ∨ 4 = 4) by omega)]; rw [if_pos (show (4 = 2 ∨ 4 = 4) by omega)] at j8; omega
            · cases e
              have hal := ha (Or.inr rfl)
              exact ⟨⟨[], by simp⟩, ok, hal.1, hal.2, h20, Int.le_refl _, by show 2 * S.2.1 - (S.1.length : Int) + (if (4 = 2 ∨ 4 = 4) then 0 else 1) ≤ 2 * S.2.1 - (S.1.length : Int); rw [if_pos (by omega)]; omega, by show S.2.2.length + (if (4 = 2 ∨ 4 = 4) then 0 else 1) ≤ S.2.2.length; rw [if_pos (by omega)]; omega, te⟩
