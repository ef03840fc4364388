/-! a book, judged: sums over needs; a year's end in one -/
/-- g where a need is, 0 elsewhere -/
def ndI (A B : Nat → Int) (g : Nat → Nat → Int) : Nat → Nat → Nat → Int
  | 0, _, _ => 0
  | N + 1, q, k => if A N = (q : Int) ∧ B N = (k : Int) then g q k else ndI A B g N q k
theorem ndI_no {A B : Nat → Int} {g : Nat → Nat → Int} {q k : Nat} : ∀ N, (∀ n, n < N → ¬ (A n = (q : Int) ∧ B n = (k : Int))) → ndI A B g N q k = 0
  | 0, _ => rfl
  | N + 1, h => by
    unfold ndI
    rw [if_neg (h N (by omega))]
    exact ndI_no N fun n hn => h n (by omega)
theorem ndI_is {A B : Nat → Int} {g : Nat → Nat → Int} {q k n : Nat} : ∀ N, n < N → A n = (q : Int) → B n = (k : Int) → ndI A B g N q k = g q k
  | 0, h, _, _ => by omega
  | N + 1, h, a, b => by
    unfold ndI
    by_cases c : A N = (q : Int) ∧ B N = (k : Int)
    · rw [if_pos c]
    · rw [if_neg c]
      by_cases e : n = N
      · subst e; exact absurd ⟨a, b⟩ c
      · exact ndI_is N (by omega) a b
theorem sm_zero {f : Nat → Int} : ∀ n, (∀ q, q < n → f q = 0) → sm f n = 0
  | 0, _ => rfl
  | n + 1, h => by
    unfold sm
    rw [sm_zero n fun q hq => h q (by omega), h n (by omega)]
    rfl
theorem sm_more {f : Nat → Int} {n : Nat} : ∀ k, (∀ q, n ≤ q → q < n + k → f q = 0) → sm f (n + k) = sm f n
  | 0, _ => rfl
  | k + 1, h => by
    show sm f (n + k) + f (n + k) = sm f n
    rw [sm_more k fun q a b => h q a (by omega), h (n + k) (by omega) (by omega)]
    omega
theorem ndI_sum {A B : Nat → Int} {g : Nat → Nat → Int} {P K : Nat} : ∀ N, (∀ n, n < N → 0 ≤ A n ∧ A n < P ∧ 0 ≤ B n ∧ B n < K) → (∀ n n', n < n' → n' < N → ¬ (A n = A n' ∧ B n = B n')) → sm (fun q => sm (fun k => ndI A B g N q k) K) P = sm (fun n => g (A n).toNat (B n).toNat) N
  | 0, _, _ => sm_zero P fun q _ => sm_zero K fun k _ => rfl
  | N + 1, h1, h2 => by
    have ih := ndI_sum (g := g) N (fun n hn => h1 n (by omega)) (fun n n' a b => h2 n n' a (by omega))
    show _ = sm (fun n => g (A n).toNat (B n).toNat) N + g (A N).toNat (B N).toNat
    rw [← ih]
    obtain ⟨a0, a1, b0, b1⟩ := h1 N (by omega)
    have ha : A N = ((A N).toNat : Int) := by omega
    have hb : B N = ((B N).toNat : Int) := by omega
    have zero : ndI A B g N (A N).toNat (B N).toNat = 0 := ndI_no N fun n hn c => h2 n N hn (by omega) ⟨by omega, by omega⟩
    have inner : sm (fun k => ndI A B g (N + 1) (A N).toNat k) K = sm (fun k => ndI A B g N (A N).toNat k) K + g (A N).toNat (B N).toNat := by
      have := sm_set (f := fun k => ndI A B g N (A N).toNat k) (g := fun k => ndI A B g (N + 1) (A N).toNat k) (p := (B N).toNat) (y := g (A N).toNat (B N).toNat) (by
        show ndI A B g (N + 1) _ _ = ndI A B g N _ _ + _
        rw [zero]
        unfold ndI
        rw [if_pos ⟨ha, hb⟩]
        omega) (fun k hk => by
        show ndI A B g (N + 1) _ _ = ndI A B g N _ _
        conv => lhs; unfold ndI
        rw [if_neg (fun c => hk (by omega))]) K
      rw [this, if_pos (by omega)]
    have := sm_set (f := fun q => sm (fun k => ndI A B g N q k) K) (g := fun q => sm (fun k => ndI A B g (N + 1) q k) K) (p := (A N).toNat) (y := g (A N).toNat (B N).toNat) inner (fun q hq => by
      refine sm_congr K fun k _ => ?_
      show ndI A B g (N + 1) _ _ = ndI A B g N _ _
      conv => lhs; unfold ndI
      rw [if_neg (fun c => hq (by omega))]) P
    rw [this, if_pos (by omega)]
/-- a sum over all that there is, and one over the needs -/
theorem need_sum {R : Nat → Int} (c : co R (R 1)) (hz : rz R) (g : Nat → Nat → Int) (hg : ∀ q k : Nat, (q : Int) < R 1 → (k : Int) < R 0 → (∀ n : Nat, (n : Int) < R 2 → ¬ (R (225 + 2 * n) = q ∧ R (226 + 2 * n) = k)) → g q k = 0) : sm (fun q => sm (fun k => g q k) (R 0).toNat) (R 1).toNat = sm (fun n => g (R (225 + 2 * n)).toNat (R (226 + 2 * n)).toNat) (R 2).toNat := by
  unfold rz at hz
  rw [← ndI_sum (A := fun n => R (225 + 2 * n)) (B := fun n => R (226 + 2 * n)) (g := g) (P := (R 1).toNat) (K := (R 0).toNat) (R 2).toNat (fun n hn => by
    have := c.2.1 n (by omega)
    omega) (fun n n' a b => c.2.2.2 n n' a (by omega))]
  refine sm_congr _ fun q hq => sm_congr _ fun k hk => ?_
  by_cases e : ∃ n : Nat, (n : Int) < R 2 ∧ R (225 + 2 * n) = q ∧ R (226 + 2 * n) = k
  · obtain ⟨n, hn, a, b⟩ := e
    rw [ndI_is (R 2).toNat (n := n) (by omega) a b]
  · rw [hg q k (by omega) (by omega) (fun n hn w => e ⟨n, hn, w⟩), ndI_no (R 2).toNat fun n hn w => e ⟨n, by omega, w⟩]
/-! a year's end in one -/
def brk (J : am_H) (p q k : Nat) : Int := if (¬ J 8 (jb p q k) = 0 ∨ J 1 (jb p q k) ≤ J 0 4 ∧ J 0 4 ≤ J 2 (jb p q k)) ∧ ¬ hb (J 3 (6 * q + k)) p then 1 else 0
/-- between: what is behind c is as it was, what is ahead of it and in reach is told -/
def jC (J0 J : am_H) (c : Nat) (f : Nat → Int) (s : Int) : Prop :=
  (∀ b, c ≤ b → J 8 b = J0 8 b) ∧ (∀ b, J 8 b = J0 8 b ∨ J 8 b = 0) ∧ (∀ i, J 6 i = J0 6 i + f i) ∧ J 0 2 = J0 0 2 + s ∧ (∀ i, i ≠ 0 → i ≠ 6 → i ≠ 8 → J i = J0 i) ∧ ∀ j, j ≠ 2 → J 0 j = J0 0 j
theorem jb_n (p q k : Nat) : jb p q k = 48 * p + 6 * q + k := by unfold jb; omega
theorem jC_step {J0 J : am_H} {p q k : Nat} {f : Nat → Int} {s : Int} (c : jC J0 J (48 * p + 6 * q + k) f s) : jC J0 (jE1 p q k J) (48 * p + 6 * q + (k + 1)) (fun i => f i + if i = p then brk J0 p q k else 0) (s + brk J0 p q k) ∧ (jE1 p q k J) 8 (jb p q k) = 0 ∧ ∀ b, b ≠ jb p q k → (jE1 p q k J) 8 b = J 8 b := by
  obtain ⟨c1, c2, c3, c4, c5, c6⟩ := c
  have eb := jb_n p q k
  have e8 : J 8 (jb p q k) = J0 8 (jb p q k) := c1 _ (by omega)
  have e1 : J 1 = J0 1 := c5 1 (by omega) (by omega) (by omega)
  have e2 : J 2 = J0 2 := c5 2 (by omega) (by omega) (by omega)
  have e3 : J 3 = J0 3 := c5 3 (by omega) (by omega) (by omega)
  have e4 : J 0 4 = J0 0 4 := c6 4 (by omega)
  unfold jE1 brk
  rw [e8, e1, e2, e3, e4]
  by_cases z : (¬ J0 8 (jb p q k) = 0 ∨ J0 1 (jb p q k) ≤ J0 0 4 ∧ J0 0 4 ≤ J0 2 (jb p q k)) ∧ ¬ hb (J0 3 (6 * q + k)) p
  · rw [if_pos z, if_pos z]
    refine ⟨⟨fun b hb => ?_, fun b => ?_, fun i => ?_, ?_, fun i i0 i6 i8 => ?_, fun j hj => ?_⟩, ?_, fun b hb => ?_⟩
    · rw [am_u_n _ _ _ _ _ (by omega), am_u_n _ _ _ _ _ (by omega), am_u_j (by omega)]
      exact c1 b (by omega)
    · rw [am_u_n _ _ _ _ _ (by omega), am_u_n _ _ _ _ _ (by omega)]
      by_cases e : b = jb p q k
      · rw [e, am_u_s]; exact Or.inr rfl
      · rw [am_u_j e]; exact c2 b
    · rw [am_u_n _ _ _ _ _ (by omega)]
      dsimp only
      by_cases e : i = p
      · subst e
        rw [am_u_s, if_pos rfl, c3]
        omega
      · rw [am_u_j e, am_u_n _ _ _ _ _ (by omega), if_neg e, c3]
        omega
    · rw [am_u_s, c4]
      omega
    · rw [am_u_n _ _ _ _ _ i0, am_u_n _ _ _ _ _ i6, am_u_n _ _ _ _ _ i8]
      exact c5 i i0 i6 i8
    · rw [am_u_j hj, am_u_n _ _ _ _ _ (by omega), am_u_n _ _ _ _ _ (by omega)]
      exact c6 j hj
    · rw [am_u_n _ _ _ _ _ (by omega), am_u_n _ _ _ _ _ (by omega), am_u_s]
    · rw [am_u_n _ _ _ _ _ (by omega), am_u_n _ _ _ _ _ (by omega), am_u_j hb]
  · rw [if_neg z, if_neg z]
    refine ⟨⟨fun b hb => ?_, fun b => ?_, fun i => ?_, ?_, fun i i0 i6 i8 => ?_, fun j hj => ?_⟩, ?_, fun b hb => ?_⟩
    · rw [am_u_j (by omega)]
      exact c1 b (by omega)
    · by_cases e : b = jb p q k
      · rw [e, am_u_s]; exact Or.inr rfl
      · rw [am_u_j e]; exact c2 b
    · rw [am_u_n _ _ _ _ _ (by omega), c3]
      dsimp only
      split <;> omega
    · rw [am_u_n _ _ _ _ _ (by omega), c4]
      omega
    · rw [am_u_n _ _ _ _ _ i8]
      exact c5 i i0 i6 i8
    · rw [am_u_n _ _ _ _ _ (by omega)]
      exact c6 j hj
    · rw [am_u_s]
    · rw [am_u_j hb]
theorem jC.le {J0 J : am_H} {c c' : Nat} {f g : Nat → Int} {s t : Int} (h : jC J0 J c f s) (hc : c ≤ c') (hf : ∀ i, f i = g i) (hs : s = t) : jC J0 J c' g t := by
  obtain ⟨c1, c2, c3, c4, c5, c6⟩ := h
  exact ⟨fun b hb => c1 b (by omega), c2, fun i => by rw [c3, hf], by rw [c4, hs], c5, c6⟩
theorem jC_2 {J0 J : am_H} {p q : Nat} {f : Nat → Int} {s : Int} (c : jC J0 J (48 * p + 6 * q) f s) : ∀ n, n ≤ 6 → jC J0 (lp (fun k => jE1 p q k) n J) (48 * p + 6 * q + n) (fun i => f i + if i = p then sm (fun k => brk J0 p q k) n else 0) (s + sm (fun k => brk J0 p q k) n) ∧ (∀ k, k < n → (lp (fun k => jE1 p q k) n J) 8 (jb p q k) = 0) ∧ ∀ b, b < 48 * p + 6 * q → (lp (fun k => jE1 p q k) n J) 8 b = J 8 b
  | 0, _ => ⟨c.le (by omega) (fun i => by simp [sm]) (by simp [sm]), fun k hk => by omega, fun b _ => rfl⟩
  | n + 1, hn => by
    obtain ⟨i1, i2, i3⟩ := jC_2 c n (by omega)
    obtain ⟨s1, s2, s3⟩ := jC_step i1
    refine ⟨s1.le (by omega) (fun i => ?_) ?_, fun k hk => ?_, fun b hb => ?_⟩
    · show f i + _ + _ = f i + if i = p then sm (fun k => brk J0 p q k) n + brk J0 p q n else 0
      split <;> omega
    · show s + _ + _ = s + (sm (fun k => brk J0 p q k) n + brk J0 p q n)
      omega
    · show (jE1 p q n _) 8 _ = 0
      by_cases e : k = n
      · subst e; exact s2
      · rw [s3 _ (by rw [jb_n, jb_n]; omega)]
        exact i2 k (by omega)
    · show (jE1 p q n _) 8 _ = _
      rw [s3 _ (by rw [jb_n]; omega)]
      exact i3 b hb
theorem jC_3 {R : Nat → Int} {J0 J : am_H} {p : Nat} {f : Nat → Int} {s : Int} (hz : rz R) (c : jC J0 J (48 * p) f s) : ∀ n, n ≤ 8 → jC J0 (lp (jE2 R p) n J) (48 * p + 6 * n) (fun i => f i + if i = p then sm (fun q => sm (fun k => brk J0 p q k) (R 0).toNat) n else 0) (s + sm (fun q => sm (fun k => brk J0 p q k) (R 0).toNat) n) ∧ (∀ q k : Nat, q < n → (k : Int) < R 0 → (lp (jE2 R p) n J) 8 (jb p q k) = 0) ∧ ∀ b, b < 48 * p → (lp (jE2 R p) n J) 8 b = J 8 b
  | 0, _ => ⟨c.le (by omega) (fun i => by simp [sm]) (by simp [sm]), fun q k hq => by omega, fun b _ => rfl⟩
  | n + 1, hn => by
    unfold rz at hz
    obtain ⟨i1, i2, i3⟩ := jC_3 (R := R) hz c n (by omega)
    obtain ⟨s1, s2, s3⟩ := jC_2 (p := p) (q := n) i1 (R 0).toNat (by omega)
    refine ⟨s1.le (by omega) (fun i => ?_) ?_, fun q k hq hk => ?_, fun b hb => ?_⟩
    · show f i + _ + _ = f i + if i = p then sm (fun q => sm (fun k => brk J0 p q k) (R 0).toNat) n + sm (fun k => brk J0 p n k) (R 0).toNat else 0
      split <;> omega
    · show s + _ + _ = s + (sm (fun q => sm (fun k => brk J0 p q k) (R 0).toNat) n + sm (fun k => brk J0 p n k) (R 0).toNat)
      omega
    · show (lp (fun k => jE1 p n k) (R 0).toNat _) 8 _ = 0
      by_cases e : q = n
      · subst e; exact s2 k (by omega)
      · rw [s3 _ (by rw [jb_n]; omega)]
        exact i2 q k (by omega) hk
    · show (lp (fun k => jE1 p n k) (R 0).toNat _) 8 _ = _
      rw [s3 _ (by omega)]
      exact i3 b hb
theorem jC_4 {R : Nat → Int} {J0 J : am_H} {f : Nat → Int} {s : Int} (hz : rz R) (c : jC J0 J 0 f s) : ∀ n, n ≤ 8 → jC J0 (lp (jE3 R) n J) (48 * n) (fun i => f i + if i < n then sm (fun q => sm (fun k => brk J0 i q k) (R 0).toNat) (R 1).toNat else 0) (s + sm (fun p => sm (fun q => sm (fun k => brk J0 p q k) (R 0).toNat) (R 1).toNat) n) ∧ ∀ p q k : Nat, p < n → (q : Int) < R 1 → (k : Int) < R 0 → (lp (jE3 R) n J) 8 (jb p q k) = 0
  | 0, _ => ⟨c.le (by omega) (fun i => by simp) (by simp [sm]), fun p q k hp => by omega⟩
  | n + 1, hn => by
    have hz' := hz
    unfold rz at hz'
    obtain ⟨i1, i2⟩ := jC_4 (R := R) hz c n (by omega)
    obtain ⟨s1, s2, s3⟩ := jC_3 (p := n) hz i1 (R 1).toNat (by omega)
    refine ⟨s1.le (by omega) (fun i => ?_) ?_, fun p q k hp hq hk => ?_⟩
    · by_cases e : i = n
      · subst e
        rw [if_neg (by omega), if_pos rfl, if_pos (by omega)]
        omega
      · by_cases e2 : i < n
        · rw [if_pos e2, if_neg e, if_pos (by omega)]
          omega
        · rw [if_neg e2, if_neg e, if_neg (by omega)]
          omega
    · show s + _ + _ = s + (sm (fun p => sm (fun q => sm (fun k => brk J0 p q k) (R 0).toNat) (R 1).toNat) n + sm (fun q => sm (fun k => brk J0 n q k) (R 0).toNat) (R 1).toNat)
      omega
    · show (lp (jE2 R n) (R 1).toNat _) 8 _ = 0
      by_cases e : p = n
      · subst e; exact s2 q k (by omega) hk
      · rw [s3 _ (by rw [jb_n]; omega)]
        exact i2 p q k (by omega) hq hk
theorem jE5_3 (J : am_H) : ∀ n j, j < n → lp (fun i J => am_u J 3 i 0) n J 3 j = 0
  | 0, j, h => by omega
  | n + 1, j, h => by
    rw [jE5_s]
    by_cases e : j = n
    · subst e; exact am_u_s _ _ _ _
    · rw [am_u_j e]
      exact jE5_3 J n j (by omega)
/-- a year's end, in one -/
theorem jEnd_is {R : Nat → Int} {J : am_H} (hz : rz R) :
    (∀ b, jEnd R J 8 b = J 8 b ∨ jEnd R J 8 b = 0) ∧ (∀ p q k : Nat, (p : Int) < R 1 → (q : Int) < R 1 → (k : Int) < R 0 → jEnd R J 8 (jb p q k) = 0) ∧
    (∀ i : Nat, jEnd R J 6 i = J 6 i + if (i : Int) < R 1 then sm (fun q => sm (fun k => brk J i q k) (R 0).toNat) (R 1).toNat else 0) ∧
    jEnd R J 0 2 = J 0 2 + sm (fun p => sm (fun q => sm (fun k => brk J p q k) (R 0).toNat) (R 1).toNat) (R 1).toNat ∧
    (∀ j, j < 48 → jEnd R J 3 j = 0) ∧ jEnd R J 0 4 = J 0 4 + 1 ∧ (∀ i, i = 1 ∨ i = 2 ∨ i = 4 ∨ i = 5 ∨ i = 7 → jEnd R J i = J i) ∧ ∀ j, j = 0 ∨ j = 1 ∨ j = 3 → jEnd R J 0 j = J 0 j := by
  have hz' := hz
  unfold rz at hz'
  have c0 : jC J J 0 (fun _ => 0) 0 := ⟨fun _ _ => rfl, fun _ => Or.inl rfl, fun i => by dsimp only; omega, by omega, fun _ _ _ _ => rfl, fun _ _ => rfl⟩
  obtain ⟨⟨c1, c2, c3, c4, c5, c6⟩, c7⟩ := jC_4 (R := R) hz c0 (R 1).toNat (by omega)
  have e0 : ∀ i, i ≠ 0 → i ≠ 3 → jEnd R J i = jE4 R J i := fun i i0 i3 => by
    unfold jEnd
    rw [am_u_n _ _ _ _ _ i0]
    exact jE5_0 48 _ i i3
  have e1 : ∀ j, j ≠ 4 → jEnd R J 0 j = jE4 R J 0 j := fun j hj => by
    unfold jEnd
    rw [am_u_j hj]
    exact congrFun (jE5_0 48 _ 0 (by omega)) j
  refine ⟨fun b => ?_, fun p q k hp hq hk => ?_, fun i => ?_, ?_, fun j hj => ?_, ?_, fun i hi => ?_, fun j hj => ?_⟩
  · rw [e0 8 (by omega) (by omega)]
    exact c2 b
  · rw [e0 8 (by omega) (by omega)]
    exact c7 p q k (by omega) hq hk
  · rw [e0 6 (by omega) (by omega)]
    have := c3 i
    unfold jE4
    rw [this]
    dsimp only
    by_cases e : i < (R 1).toNat
    · rw [if_pos e, if_pos (by omega)]
      omega
    · rw [if_neg e, if_neg (by omega)]
      omega
  · rw [e1 2 (by omega)]
    unfold jE4
    rw [c4]
    omega
  · unfold jEnd
    rw [am_u_n _ _ _ _ _ (by omega)]
    exact jE5_3 _ 48 j hj
  · unfold jEnd
    rw [am_u_s]
    unfold jE5
    rw [congrFun (jE5_0 48 (jE4 R J) 0 (by omega)) 4]
    unfold jE4
    rw [c6 4 (by omega)]
  · rw [e0 i (by omega) (by omega)]
    exact c5 i (by omega) (by omega) (by omega)
  · rw [e1 j (by omega)]
    exact c6 j (by omega)
