/-! contracts: the class's tokens -/
def tkA (h : am_H) (T : Nat) (l : List (Int × Int × Int)) : Prop := h T 9 = (l.length : Int) ∧ ∀ (j : Nat) (q : Int × Int × Int), l[j]? = some q → h (T + 1) j = q.1 ∧ h (T + 2) j = q.2.1 ∧ h (T + 3) j = q.2.2
def fr4 (h h1 : am_H) (T : Nat) : Prop := ∀ q, (q < T ∨ T + 4 ≤ q) → h1 q = h q
theorem fr4.trans {h h1 h2 : am_H} {T : Nat} (a : fr4 h h1 T) (b : fr4 h1 h2 T) : fr4 h h2 T := fun q hq => (b q hq).trans (a q hq)
theorem fr4.u {h : am_H} {T o j : Nat} {x : Int} (ho : T ≤ o ∧ o < T + 4) : fr4 h (am_u h o j x) T := fun q hq => am_u_n _ _ _ _ q (by omega)
section
variable {d : Nat} {Y : am_Y} {h : am_H} {T : Nat}
theorem ac_isSmall {x : Int} : am_cI am_Tokens_isSmall d Y [.inl x] h (fun r h1 => h1 = h ∧ r = if 97 ≤ x ∧ x ≤ 122 then 1 else 0) := by
  refine am_Met.of (by decide) rfl (Nat.le_of_ble_eq_true rfl) (ab_Tokens_isSmall_0 ?_)
  simp only [am_qI_s]
  grind
theorem ac_isDigit {x : Int} : am_cI am_Tokens_isDigit d Y [.inl x] h (fun r h1 => h1 = h ∧ r = if 48 ≤ x ∧ x ≤ 57 then 1 else 0) := by
  refine am_Met.of (by decide) rfl (Nat.le_of_ble_eq_true rfl) (ab_Tokens_isDigit_0 ?_)
  simp only [am_qI_s]
  grind
theorem ac_isBlank {x : Int} : am_cI am_Tokens_isBlank d Y [.inl x] h (fun r h1 => h1 = h ∧ r = if x = 32 ∨ x = 10 then 1 else 0) := by
  refine am_Met.of (by decide) rfl (Nat.le_of_ble_eq_true rfl) (ab_Tokens_isBlank_0 ?_)
  simp only [am_qI_s]
  grind
theorem ac_signKind {x : Int} : am_cI am_Tokens_signKind d Y [.inl x] h (fun r h1 => h1 = h ∧ r = lxg x) := by
  refine am_Met.of (by decide) rfl (Nat.le_of_ble_eq_true rfl) (ab_Tokens_signKind_0 ?_)
  simp only [am_qI_s]
  unfold lxg
  grind
/-- over the String constant -/
theorem ac_wordKind_open {x : Int} : am_cI am_Tokens_wordKind (d + 8) Y [.inl x] h (fun r h1 => h1 = h ∧ r = lxk x) := ac_wordKind
theorem ac_add {l : List (Int × Int × Int)} {x y z : Int} (hY : am_at Y T am_L8) (hl : tkA h T l) (hn : l.length < 1000) : am_cV am_Tokens_add d Y [.inr (.inr T), .inl x, .inl y, .inl z] h (fun h1 => tkA h1 T (l ++ [(x, y, z)]) ∧ fr4 h h1 T ∧ ∀ j, j ≠ 9 → h1 T j = h T j) := by
  refine am_Met.of (by decide) rfl (Nat.le_of_ble_eq_true rfl) (ab_Tokens_add_0 hY ?_)
  simp only [am_qV_s]
  obtain ⟨h9, ha⟩ := hl
  refine ⟨fun _ => by omega, fun _ => ⟨by omega, fun h1 e1 => ?_⟩⟩
  have q1 : h1 T 9 = l.length := by rw [e1, am_u_n _ _ _ _ T (by omega)]; exact h9
  refine ⟨by omega, fun h2 e2 => ?_⟩
  have q2 : h2 T 9 = l.length := by rw [e2, am_u_n _ _ _ _ T (by omega)]; exact q1
  refine ⟨by omega, fun h3 e3 => ?_⟩
  have q3 : h3 T 9 = l.length := by rw [e3, am_u_n _ _ _ _ T (by omega)]; exact q2
  refine ⟨⟨by omega, by omega⟩, fun h4 e4 => ?_⟩
  rw [h9] at e1; rw [q1] at e2; rw [q2] at e3; rw [q3] at e4
  simp only [Int.toNat_natCast] at e1 e2 e3
  refine ⟨⟨?_, ?_⟩, ?_, ?_⟩
  · rw [e4, am_u_s]; simp
  · intro j q hq
    have r1 : h4 (T + 1) j = if j = l.length then x else h (T + 1) j := by
      rw [e4, am_u_n _ _ _ _ (T + 1) (by omega), e3, am_u_n _ _ _ _ (T + 1) (by omega), e2, am_u_n _ _ _ _ (T + 1) (by omega), e1]; simp [am_u]
    have r2 : h4 (T + 2) j = if j = l.length then y else h (T + 2) j := by
      rw [e4, am_u_n _ _ _ _ (T + 2) (by omega), e3, am_u_n _ _ _ _ (T + 2) (by omega), e2]
      simp only [am_u, true_and]
      rw [e1, am_u_n _ _ _ _ (T + 2) (by omega)]
    have r3 : h4 (T + 3) j = if j = l.length then z else h (T + 3) j := by
      rw [e4, am_u_n _ _ _ _ (T + 3) (by omega), e3]
      simp only [am_u, true_and]
      rw [e2, am_u_n _ _ _ _ (T + 3) (by omega), e1, am_u_n _ _ _ _ (T + 3) (by omega)]
    rw [r1, r2, r3]
    by_cases hj : j < l.length
    · rw [List.getElem?_append_left hj] at hq
      rw [if_neg (by omega), if_neg (by omega), if_neg (by omega)]
      exact ha j q hq
    · rw [List.getElem?_append_right (by omega)] at hq
      have hz : j - l.length < 1 := (List.getElem?_eq_some_iff.mp hq).1
      have hj2 : j = l.length := by omega
      subst hj2
      simp at hq
      subst hq
      simp
  · intro q hq
    rw [e4, am_u_n _ _ _ _ q (by omega), e3, am_u_n _ _ _ _ q (by omega), e2, am_u_n _ _ _ _ q (by omega), e1, am_u_n _ _ _ _ q (by omega)]
  · intro j hj
    rw [e4, am_u_j hj, e3, am_u_n _ _ _ _ T (by omega), e2, am_u_n _ _ _ _ T (by omega), e1, am_u_n _ _ _ _ T (by omega)]
/-! the word and the number, while they are read -/
theorem lxC_le (s : Nat → Int) (i : Nat) : ∀ k, 0 ≤ lxC s i k ∧ lxC s i k ≤ k
  | 0 => by simp [lxC]
  | k + 1 => by
    have := lxC_le s i k
    unfold lxC
    split <;> omega
theorem lxw_b (s : Nat → Int) (i : Nat) : ∀ k, lxC s i k = k → k ≤ 6 → 0 ≤ lxw s i k ∧ lxw s i k + 1 ≤ 27 ^ k
  | 0, _, _ => by simp [lxw]
  | k + 1, h, hk => by
    have hle := lxC_le s i k
    unfold lxC at h
    by_cases c : 97 ≤ s (i + k) ∧ s (i + k) ≤ 122
    · rw [if_pos c] at h
      have ih := lxw_b s i k (by omega) (by omega)
      unfold lxw
      have e : (27 : Int) ^ (k + 1) = 27 * 27 ^ k := by rw [Int.pow_succ, Int.mul_comm]
      rw [e]
      omega
    · rw [if_neg c] at h
      omega
theorem p27 : ∀ k : Nat, k ≤ 6 → (27 : Int) ^ k ≤ 387420489
  | 0, _ => by decide
  | 1, _ => by decide
  | 2, _ => by decide
  | 3, _ => by decide
  | 4, _ => by decide
  | 5, _ => by decide
  | 6, _ => by decide
  | k + 7, h => by omega
theorem lxn_b (s : Nat → Int) (i : Nat) : ∀ k, (∀ j, j < k → 97 ≤ s (i + j) ∧ s (i + j) ≤ 122 ∨ 48 ≤ s (i + j) ∧ s (i + j) ≤ 57) → lxC s i k = 0 → k ≤ 3 → 0 ≤ lxn s i k ∧ lxn s i k + 1 ≤ 10 ^ k
  | 0, _, _, _ => by simp [lxn]
  | k + 1, hw, h, hk => by
    have hle := lxC_le s i k
    unfold lxC at h
    by_cases c : 97 ≤ s (i + k) ∧ s (i + k) ≤ 122
    · rw [if_pos c] at h
      omega
    · rw [if_neg c] at h
      have ih := lxn_b s i k (fun j hj => hw j (by omega)) h (by omega)
      have hd := hw k (by omega)
      unfold lxn
      have e : (10 : Int) ^ (k + 1) = 10 * 10 ^ k := by rw [Int.pow_succ, Int.mul_comm]
      rw [e]
      omega
theorem p10 : ∀ k : Nat, k ≤ 3 → (10 : Int) ^ k ≤ 1000
  | 0, _ => by decide
  | 1, _ => by decide
  | 2, _ => by decide
  | 3, _ => by decide
  | k + 4, h => by omega
theorem lx_stepw (s : Nat → Int) (i k : Nat) (w : Int) (hw : lxC s i k = k → k ≤ 6 → w = lxw s i k) : lxC s i (k + 1) = ((k + 1 : Nat) : Int) → k + 1 ≤ 6 → am_w (am_w (w * 27) + (s (i + k) - 97 + 1)) = lxw s i (k + 1) := by
  intro h hk
  have hle := lxC_le s i k
  unfold lxC at h
  by_cases c : 97 ≤ s (i + k) ∧ s (i + k) ≤ 122
  · rw [if_pos c] at h
    have hb := lxw_b s i k (by omega) (by omega)
    have hp := p27 k (by omega)
    have e := hw (by omega) (by omega)
    have hp5 : (27 : Int) ^ k ≤ 14348907 := by
      match k, hk with
      | 0, _ => decide
      | 1, _ => decide
      | 2, _ => decide
      | 3, _ => decide
      | 4, _ => decide
      | 5, _ => decide
      | k + 6, h => omega
    have e1 : am_w (lxw s i k * 27) = lxw s i k * 27 := am_w_of ⟨by omega, by omega⟩
    have e2 : lxw s i (k + 1) = 27 * lxw s i k + (s (i + k) - 96) := rfl
    rw [e, e1, am_w_of ⟨by omega, by omega⟩, e2]
    omega
  · rw [if_neg c] at h
    omega
theorem lx_stepn (s : Nat → Int) (i k : Nat) (w : Int) (hW : ∀ j, j < k + 1 → 97 ≤ s (i + j) ∧ s (i + j) ≤ 122 ∨ 48 ≤ s (i + j) ∧ s (i + j) ≤ 57) (hw : lxC s i k = 0 → k ≤ 3 → w = lxn s i k) : lxC s i (k + 1) = 0 → k + 1 ≤ 3 → am_w (am_w (w * 10) + (s (i + k) - 48)) = lxn s i (k + 1) := by
  intro h hk
  have hle := lxC_le s i k
  unfold lxC at h
  by_cases c : 97 ≤ s (i + k) ∧ s (i + k) ≤ 122
  · rw [if_pos c] at h
    omega
  · rw [if_neg c] at h
    have hb := lxn_b s i k (fun j hj => hW j (by omega)) (by omega) (by omega)
    have hp := p10 k (by omega)
    have e := hw (by omega) (by omega)
    have hd := hW k (by omega)
    have e1 : am_w (lxn s i k * 10) = lxn s i k * 10 := am_w_of ⟨by omega, by omega⟩
    have e2 : lxn s i (k + 1) = 10 * lxn s i k + (s (i + k) - 48) := rfl
    rw [e, e1, am_w_of ⟨by omega, by omega⟩, e2]
    omega
theorem ac_readWord {l : List (Int × Int × Int)} {q i n n1 : Nat} (hY : am_at Y T am_L8) (hq : Y[q]? = some (13, n1)) (hqT : q < T ∨ T + 4 ≤ q) (hl : tkA h T l) (hll : l.length < 1000) (hi : h T 11 = (i : Int)) (hin : i < n) (hn : n ≤ n1) (hn1 : n ≤ 1000) (hW : 97 ≤ h q i ∧ h q i ≤ 122 ∨ 48 ≤ h q i ∧ h q i ≤ 57) :
    am_cV am_Tokens_readWordOrNumber (d + 9) Y [.inr (.inr T), .inr (.inr q), .inl (n : Int)] h (fun h1 => tkA h1 T (l ++ [lxR (h q) i (lxE (h q) n n i - i)]) ∧ fr4 h h1 T ∧ h1 T 11 = (lxE (h q) n n i : Int) ∧ ∀ j, j ≠ 9 → j ≠ 11 → h1 T j = h T j) := by
  refine am_Met.rg fun hok _ => ?_
  have hby : ∀ j, -128 ≤ h q j ∧ h q j < 128 := fun j => (hok q _ hq j).2.2.2 rfl
  refine am_Met.of (by decide) rfl (Nat.le_of_ble_eq_true rfl) (ab_Tokens_readWordOrNumber_0 hY hq ?_)
  rw [hi]
  generalize hQ : (am_qV (fun h1 => tkA h1 T (l ++ [lxR (h q) i (lxE (h q) n n i - i)]) ∧ fr4 h h1 T ∧ h1 T 11 = (lxE (h q) n n i : Int) ∧ ∀ j, j ≠ 9 → j ≠ 11 → h1 T j = h T j)) = Q
  -- the end
  have fin : ∀ (hh : am_H) (k : Nat) (w nn : Int), lxE (h q) n n i = i + k → 0 < k → fr4 h hh T → tkA hh T l → hh T 11 = ((i + k : Nat) : Int) → (∀ j, j ≠ 11 → hh T j = h T j) → (lxC (h q) i k = k → k ≤ 6 → w = lxw (h q) i k) → (lxC (h q) i k = 0 → k ≤ 3 → nn = lxn (h q) i k) → aw_Tokens_readWordOrNumber_117 (d + 9) Y T q n1 (i : Int) (lxC (h q) i k) w nn hh Q := by
    intro hh k w nn hE hk0 hf ht h11 hoth hw hnn
    have hkk : lxE (h q) n n i - i = k := by omega
    have hEn := lxE_le (h q) n n i (by omega)
    have put : ∀ (h2 : am_H) (x y z : Int), h2 = hh → (x, y, z) = lxR (h q) i k → am_kV am_Tokens_add (d + 9) Y [.inr (.inr T), .inl x, .inl y, .inl z] h2 (fun h3 => Q none h3) := by
      rintro h2 x y z rfl ez
      refine am_kV.of (ac_add (d := 0) hY ht hll) (by omega) (fun h3 _ hp => ?_)
      rw [← hQ, am_qV_s, hkk, ← ez]
      refine ⟨hp.1, hf.trans hp.2.1, ?_, fun j j9 j11 => (hp.2.2 j j9).trans (hoth j j11)⟩
      rw [hp.2.2 11 (by omega), h11, hE]
    have hc := lxC_le (h q) i k
    have k154 : ∀ nl : ¬ (lxC (h q) i k = k ∧ k ≤ 6), aw_Tokens_readWordOrNumber_154 (d + 9) Y T q n1 (i : Int) (lxC (h q) i k) nn (k : Int) hh Q := by
      intro nl
      refine ab_Tokens_readWordOrNumber_154 hY hq ⟨fun c => put _ _ _ _ rfl ?_, fun c => ⟨fun c2 => put _ _ _ _ rfl ?_, fun c2 => put _ _ _ _ rfl ?_⟩⟩
      · unfold lxR; rw [if_neg nl, if_neg (fun z => c z.1)]
      · unfold lxR; rw [if_neg nl, if_neg (fun z => by omega)]
      · unfold lxR; rw [if_neg nl, if_pos ⟨c, by omega⟩, hnn c (by omega)]
    refine ab_Tokens_readWordOrNumber_117 hY hq ?_
    rw [h11]
    have e1 : ((i + k : Nat) : Int) - (i : Int) = (k : Int) := by omega
    rw [e1]
    refine ⟨⟨by omega, by omega⟩, fun c => k154 (fun z => c z.1), fun c => ⟨fun c2 => k154 (fun z => by omega), fun c2 => ?_⟩⟩
    refine am_kI.of (ac_wordKind_open (d := d)) (by omega) ?_
    rintro x h3 - - ⟨e3, rfl⟩
    refine put h3 _ _ _ e3 ?_
    unfold lxR
    rw [if_pos ⟨c, by omega⟩, hw c (by omega)]
  -- the loop
  have loop : ∀ (p : Int) (hh : am_H) (k : Nat) (w nn : Int), p = ((i + k : Nat) : Int) → i + k ≤ n → fr4 h hh T → tkA hh T l → hh T 11 = ((i + k : Nat) : Int) → (∀ j, j ≠ 11 → hh T j = h T j) → lxE (h q) n n i = lxE (h q) n n (i + k) → (∀ j, j < k → 97 ≤ h q (i + j) ∧ h q (i + j) ≤ 122 ∨ 48 ≤ h q (i + j) ∧ h q (i + j) ≤ 57) → (lxC (h q) i k = k → k ≤ 6 → w = lxw (h q) i k) → (lxC (h q) i k = 0 → k ≤ 3 → nn = lxn (h q) i k) → aw_Tokens_readWordOrNumber_14 (d + 9) Y T q n1 (n : Int) (i : Int) (lxC (h q) i k) w nn hh Q := by
    refine am_up (fun p => ∀ (hh : am_H) (k : Nat) (w nn : Int), p = ((i + k : Nat) : Int) → i + k ≤ n → fr4 h hh T → tkA hh T l → hh T 11 = ((i + k : Nat) : Int) → (∀ j, j ≠ 11 → hh T j = h T j) → lxE (h q) n n i = lxE (h q) n n (i + k) → (∀ j, j < k → 97 ≤ h q (i + j) ∧ h q (i + j) ≤ 122 ∨ 48 ≤ h q (i + j) ∧ h q (i + j) ≤ 57) → (lxC (h q) i k = k → k ≤ 6 → w = lxw (h q) i k) → (lxC (h q) i k = 0 → k ≤ 3 → nn = lxn (h q) i k) → aw_Tokens_readWordOrNumber_14 (d + 9) Y T q n1 (n : Int) (i : Int) (lxC (h q) i k) w nn hh Q) (n : Int) ?_ ?_
    · intro p hp hh k w nn ep hik hf ht h11 hoth hE hrun hw hnn
      refine ab_Tokens_readWordOrNumber_14 hY hq ?_
      rw [h11]
      refine ⟨fun _ => fin hh k w nn ?_ ?_ hf ht h11 hoth hw hnn, fun _ => by omega⟩
      · rw [hE]; exact lxE_stop _ _ _ (fun z => by omega)
      · omega
    · intro p hp ih hh k w nn ep hik hf ht h11 hoth hE hrun hw hnn
      refine ab_Tokens_readWordOrNumber_14 hY hq ?_
      have hqq : hh q = h q := hf q hqT
      rw [h11, hqq]
      simp only [Int.toNat_natCast]
      have hk0 : ∀ nW : ¬ (97 ≤ h q (i + k) ∧ h q (i + k) ≤ 122 ∨ 48 ≤ h q (i + k) ∧ h q (i + k) ≤ 57), 0 < k := fun nW => by
        rcases Nat.eq_zero_or_pos k with e | e
        · subst e; exact absurd hW nW
        · exact e
      have go : (97 ≤ h q (i + k) ∧ h q (i + k) ≤ 122 ∨ 48 ≤ h q (i + k) ∧ h q (i + k) ≤ 57) → ∀ (b : Int), b = (if 97 ≤ h q (i + k) ∧ h q (i + k) ≤ 122 then 1 else 0) → ∀ h2, h2 = hh → aw_Tokens_readWordOrNumber_65 (d + 9) Y T q n1 (n : Int) (i : Int) w nn (lxC (h q) i k) b h2 Q := by
        rintro cW b eb h2 rfl
        refine ab_Tokens_readWordOrNumber_65 hY hq ?_
        have hc := lxC_le (h q) i k
        have hb := hby (i + k)
        rw [h11, hqq]
        simp only [Int.toNat_natCast]
        have hb01 : b = 0 ∨ b = 1 := by rw [eb]; split <;> simp
        refine ⟨⟨by omega, by omega⟩, by omega, ⟨by omega, by omega⟩, ⟨by omega, by omega⟩, by omega, ⟨by omega, by omega⟩, ⟨by omega, by omega⟩, fun h1 e1 => ?_⟩
        have en : lxC (h q) i k + b = lxC (h q) i (k + 1) := by
          rw [eb]
          conv => rhs; unfold lxC
          split <;> omega
        rw [en]
        refine ih h1 (k + 1) _ _ (by omega) (by omega) ?_ ?_ ?_ ?_ ?_ ?_ ?_ ?_
        · rw [e1]; exact hf.trans (fr4.u (by omega))
        · refine ⟨?_, fun j q' hj => ?_⟩
          · rw [e1, am_u_j (by omega)]; exact ht.1
          · rw [e1, am_u_n _ _ _ _ (T + 1) (by omega), am_u_n _ _ _ _ (T + 2) (by omega), am_u_n _ _ _ _ (T + 3) (by omega)]
            exact ht.2 j q' hj
        · rw [e1, am_u_s]; omega
        · intro j hj
          rw [e1, am_u_j hj]
          exact hoth j hj
        · rw [hE]; exact lxE_step _ _ _ ⟨by omega, cW⟩
        · intro j hj
          by_cases e : j = k
          · subst e; exact cW
          · exact hrun j (by omega)
        · exact lx_stepw (h q) i k w hw
        · refine lx_stepn (h q) i k nn (fun j hj => ?_) hnn
          by_cases e : j = k
          · subst e; exact cW
          · exact hrun j (by omega)
      have stop : ¬ (97 ≤ h q (i + k) ∧ h q (i + k) ≤ 122 ∨ 48 ≤ h q (i + k) ∧ h q (i + k) ≤ 57) → ∀ h2, h2 = hh → aw_Tokens_readWordOrNumber_117 (d + 9) Y T q n1 (i : Int) (lxC (h q) i k) w nn h2 Q := by
        rintro nW h2 rfl
        refine fin h2 k w nn ?_ (hk0 nW) hf ht h11 hoth hw hnn
        rw [hE]; exact lxE_stop _ _ _ (fun z => nW z.2)
      refine ⟨fun _ => by omega, fun _ => ⟨by omega, ?_⟩⟩
      refine am_kI.of (ac_isSmall (d := d)) (by omega) ?_
      rintro x h3 - - ⟨e3, rfl⟩
      rw [e3, h11, hqq]
      simp only [Int.toNat_natCast]
      refine ⟨fun c => ⟨by omega, ?_⟩, fun c => ⟨by omega, ?_⟩⟩
      · have cs : 97 ≤ h q (i + k) ∧ h q (i + k) ≤ 122 := by
          by_cases z : 97 ≤ h q (i + k) ∧ h q (i + k) ≤ 122
          · exact z
          · rw [if_neg z] at c; omega
        refine am_kI.of (ac_isSmall (d := d)) (by omega) ?_
        rintro x h4 - - ⟨e4, rfl⟩
        rw [if_pos cs]
        exact ⟨fun z => by omega, fun _ => go (Or.inl cs) 1 (by rw [if_pos cs]) h4 e4⟩
      · have cs : ¬ (97 ≤ h q (i + k) ∧ h q (i + k) ≤ 122) := by
          intro z
          rw [if_pos z] at c; omega
        refine am_kI.of (ac_isDigit (d := d)) (by omega) ?_
        rintro x h4 - - ⟨e4, rfl⟩
        rw [e4, h11, hqq]
        simp only [Int.toNat_natCast]
        refine ⟨fun c2 => stop (fun z => ?_) _ rfl, fun c2 => ⟨by omega, ?_⟩⟩
        · rcases z with z | z
          · exact cs z
          · rw [if_pos z] at c2; omega
        · have cd : 48 ≤ h q (i + k) ∧ h q (i + k) ≤ 57 := by
            by_cases z : 48 ≤ h q (i + k) ∧ h q (i + k) ≤ 57
            · exact z
            · rw [if_neg z] at c2; omega
          refine am_kI.of (ac_isSmall (d := d)) (by omega) ?_
          rintro x h5 - - ⟨e5, rfl⟩
          rw [if_neg cs]
          exact ⟨fun _ => go (Or.inr cd) 0 (by rw [if_neg cs]) h5 e5, fun z => by omega⟩
  exact loop ((i : Int)) h 0 0 0 (by simp) (by omega) (fun q _ => rfl) hl (by simpa using hi) (fun j _ => rfl) rfl (fun j hj => by omega) (fun _ _ => rfl) (fun _ _ => rfl)
end
