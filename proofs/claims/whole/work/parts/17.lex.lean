/-! the tokens of a text, as numbers: (kind, place, value); s: the text's bytes (signed), n: how many, lim: the limit -/
def lxL (c : Int) : Prop := 97 ≤ c ∧ c ≤ 122
def lxD (c : Int) : Prop := 48 ≤ c ∧ c ≤ 57
def lxB (c : Int) : Prop := c = 32 ∨ c = 10
def lxW (c : Int) : Prop := 97 ≤ c ∧ c ≤ 122 ∨ 48 ≤ c ∧ c ≤ 57
/-- where the run of letters and digits that goes on at i ends -/
def lxE (s : Nat → Int) (n : Nat) : Nat → Nat → Nat
  | 0, i => i
  | f + 1, i => if i < n ∧ (97 ≤ s i ∧ s i ≤ 122 ∨ 48 ≤ s i ∧ s i ≤ 57) then lxE s n f (i + 1) else i
/-- letters among k signs from i on; the word and the number of k signs, as they come out -/
def lxC (s : Nat → Int) (i : Nat) : Nat → Int
  | 0 => 0
  | k + 1 => if 97 ≤ s (i + k) ∧ s (i + k) ≤ 122 then lxC s i k + 1 else lxC s i k
def lxw (s : Nat → Int) (i : Nat) : Nat → Int
  | 0 => 0
  | k + 1 => 27 * lxw s i k + (s (i + k) - 96)
def lxn (s : Nat → Int) (i : Nat) : Nat → Int
  | 0 => 0
  | k + 1 => 10 * lxn s i k + (s (i + k) - 48)
/-- the words that are no names, by their numbers -/
def lxh : List Char → Int
  | l => l.foldl (fun w c => 27 * w + (c.toNat - 96 : Int)) 0
def lxK : List Int := ["help", "person", "can", "needs", "friend", "sees", "binds", "out", "gift", "year", "helps", "hidden", "thanks", "leaves", "or", "and", "not", "bound", "free", "gained", "felt", "helped", "bonds", "broken"].map (fun w => lxh w.toList)
def lxk (w : Int) : Int := if w ∈ lxK then (lxK.idxOf w : Int) else 24
def lxg (c : Int) : Int := if c = 40 then 30 else if c = 41 then 31 else if c = 59 then 26 else if c = 60 then 27 else if c = 61 then 28 else if c = 62 then 29 else 33
/-- of k signs from i on -/
def lxR (s : Nat → Int) (i k : Nat) : Int × Int × Int := if lxC s i k = k ∧ k ≤ 6 then (lxk (lxw s i k), i, lxw s i k) else if lxC s i k = 0 ∧ k ≤ 3 then (25, i, lxn s i k) else (33, i, 0)
def lxT (s : Nat → Int) (n i : Nat) : Int × Int × Int := if 97 ≤ s i ∧ s i ≤ 122 ∨ 48 ≤ s i ∧ s i ≤ 57 then lxR s i (lxE s n n i - i) else (lxg (s i), i, 0)
def lxN (s : Nat → Int) (n i : Nat) : Nat := if 97 ≤ s i ∧ s i ≤ 122 ∨ 48 ≤ s i ∧ s i ≤ 57 then lxE s n n i else i + 1
/-- all from place i on, the end behind them -/
def lxS (s : Nat → Int) (n lim : Nat) : Nat → Nat → List (Int × Int × Int)
  | 0, _ => [(if lim < n then 33 else 32, ((min n lim : Nat) : Int), 0)]
  | f + 1, i => if i < min n lim then (if s i = 32 ∨ s i = 10 then lxS s n lim f (i + 1) else lxT s n i :: lxS s n lim f (lxN s n i)) else [(if lim < n then 33 else 32, ((min n lim : Nat) : Int), 0)]
def lxs (s : Nat → Int) (n lim i : Nat) : List (Int × Int × Int) := lxS s n lim (min n lim - i) i
theorem lxE_ge (s : Nat → Int) (n : Nat) : ∀ f i, i ≤ lxE s n f i
  | 0, i => Nat.le_refl _
  | f + 1, i => by
    unfold lxE
    split
    · exact Nat.le_trans (Nat.le_succ i) (lxE_ge s n f (i + 1))
    · exact Nat.le_refl _
theorem lxE_le (s : Nat → Int) (n : Nat) : ∀ f i, i ≤ n → lxE s n f i ≤ n
  | 0, i, h => h
  | f + 1, i, h => by
    unfold lxE
    split
    · next c => exact lxE_le s n f (i + 1) (by omega)
    · exact h
/-- enough fuel is enough -/
theorem lxE_fuel (s : Nat → Int) (n : Nat) : ∀ f g i, n - i ≤ f → n - i ≤ g → lxE s n f i = lxE s n g i
  | 0, 0, i, _, _ => rfl
  | 0, g + 1, i, h, _ => by
    unfold lxE
    rw [if_neg (by omega)]
  | f + 1, 0, i, _, h => by
    unfold lxE
    rw [if_neg (by omega)]
  | f + 1, g + 1, i, h1, h2 => by
    unfold lxE
    split
    · exact lxE_fuel s n f g (i + 1) (by omega) (by omega)
    · rfl
theorem lxE_step (s : Nat → Int) (n i : Nat) (h : i < n ∧ (97 ≤ s i ∧ s i ≤ 122 ∨ 48 ≤ s i ∧ s i ≤ 57)) : lxE s n n i = lxE s n n (i + 1) := by
  have e : lxE s n n i = lxE s n (n - 1 + 1) i := by rw [show n - 1 + 1 = n by omega]
  rw [e]
  conv => lhs; unfold lxE
  rw [if_pos h]
  exact lxE_fuel s n (n - 1) n (i + 1) (by omega) (by omega)
theorem lxE_stop (s : Nat → Int) (n i : Nat) (h : ¬ (i < n ∧ (97 ≤ s i ∧ s i ≤ 122 ∨ 48 ≤ s i ∧ s i ≤ 57))) : lxE s n n i = i := by
  cases n with
  | zero => rfl
  | succ n =>
    unfold lxE
    rw [if_neg h]
theorem lxN_gt (s : Nat → Int) (n i : Nat) (hi : i < n) : i < lxN s n i := by
  unfold lxN
  split
  · next c =>
    rw [lxE_step s n i ⟨hi, c⟩]
    have := lxE_ge s n n (i + 1)
    omega
  · omega
theorem lxS_fuel (s : Nat → Int) (n lim : Nat) : ∀ f g i, min n lim - i ≤ f → min n lim - i ≤ g → lxS s n lim f i = lxS s n lim g i
  | 0, 0, i, _, _ => rfl
  | 0, g + 1, i, h, _ => by
    unfold lxS
    rw [if_neg (show ¬ i < min n lim by omega)]
  | f + 1, 0, i, _, h => by
    unfold lxS
    rw [if_neg (show ¬ i < min n lim by omega)]
  | f + 1, g + 1, i, h1, h2 => by
    unfold lxS
    split
    · next c =>
      split
      · exact lxS_fuel s n lim f g (i + 1) (by omega) (by omega)
      · have := lxN_gt s n i (by omega)
        rw [lxS_fuel s n lim f g (lxN s n i) (by omega) (by omega)]
    · rfl
theorem lxs_end (s : Nat → Int) (n lim i : Nat) (h : min n lim ≤ i) : lxs s n lim i = [(if lim < n then 33 else 32, ((min n lim : Nat) : Int), 0)] := by
  unfold lxs
  rw [show min n lim - i = 0 by omega]
  rfl
theorem lxs_blank (s : Nat → Int) (n lim i : Nat) (h : i < min n lim) (hb : s i = 32 ∨ s i = 10) : lxs s n lim i = lxs s n lim (i + 1) := by
  unfold lxs
  have e : lxS s n lim (min n lim - i) i = lxS s n lim (min n lim - i - 1 + 1) i := by rw [show min n lim - i - 1 + 1 = min n lim - i by omega]
  rw [e]
  conv => lhs; unfold lxS
  rw [if_pos h, if_pos hb]
  exact lxS_fuel s n lim _ _ _ (by omega) (by omega)
theorem lxs_tok (s : Nat → Int) (n lim i : Nat) (h : i < min n lim) (hb : ¬ (s i = 32 ∨ s i = 10)) : lxs s n lim i = lxT s n i :: lxs s n lim (lxN s n i) := by
  unfold lxs
  have e : lxS s n lim (min n lim - i) i = lxS s n lim (min n lim - i - 1 + 1) i := by rw [show min n lim - i - 1 + 1 = min n lim - i by omega]
  rw [e]
  conv => lhs; unfold lxS
  rw [if_pos h, if_neg hb]
  have := lxN_gt s n i (by omega)
  rw [lxS_fuel s n lim _ (min n lim - lxN s n i) _ (by omega) (by omega)]
theorem lxs_ne (s : Nat → Int) (n lim : Nat) : ∀ f i, lxS s n lim f i ≠ []
  | 0, i => by simp [lxS]
  | f + 1, i => by
    unfold lxS
    split
    · split
      · exact lxs_ne s n lim f (i + 1)
      · simp
    · simp
/-- how many there are -/
theorem lxS_len (s : Nat → Int) (n lim : Nat) : ∀ f i, (lxS s n lim f i).length ≤ f + 1
  | 0, i => by simp [lxS]
  | f + 1, i => by
    unfold lxS
    split
    · split
      · have := lxS_len s n lim f (i + 1)
        omega
      · have := lxS_len s n lim f (lxN s n i)
        simp
        omega
    · simp
