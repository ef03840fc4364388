/-! tokens of bytes that agree as far as they go -/
section
variable {s u : Nat → Int} {n : Nat}
theorem lxE_c (a : ∀ i, i < n → s i = u i) : ∀ f i, lxE s n f i = lxE u n f i
  | 0, i => rfl
  | f + 1, i => by
    unfold lxE
    by_cases c : i < n
    · rw [a i c, lxE_c a f (i + 1)]
    · rw [if_neg (by omega), if_neg (by omega)]
theorem lxC_c (a : ∀ i, i < n → s i = u i) {i : Nat} : ∀ k, i + k ≤ n → lxC s i k = lxC u i k
  | 0, _ => rfl
  | k + 1, h => by
    unfold lxC
    rw [a (i + k) (by omega), lxC_c a k (by omega)]
theorem lxw_c (a : ∀ i, i < n → s i = u i) {i : Nat} : ∀ k, i + k ≤ n → lxw s i k = lxw u i k
  | 0, _ => rfl
  | k + 1, h => by
    unfold lxw
    rw [a (i + k) (by omega), lxw_c a k (by omega)]
theorem lxn_c (a : ∀ i, i < n → s i = u i) {i : Nat} : ∀ k, i + k ≤ n → lxn s i k = lxn u i k
  | 0, _ => rfl
  | k + 1, h => by
    unfold lxn
    rw [a (i + k) (by omega), lxn_c a k (by omega)]
theorem lxT_c (a : ∀ i, i < n → s i = u i) {i : Nat} (hi : i < n) : lxT s n i = lxT u n i := by
  have ge := lxE_ge u n n i
  have le := lxE_le u n n i (by omega)
  unfold lxT lxR
  rw [a i hi, lxE_c a n i, lxC_c a (lxE u n n i - i) (by omega), lxw_c a (lxE u n n i - i) (by omega), lxn_c a (lxE u n n i - i) (by omega)]
theorem lxN_c (a : ∀ i, i < n → s i = u i) {i : Nat} (hi : i < n) : lxN s n i = lxN u n i := by
  unfold lxN
  rw [a i hi, lxE_c a n i]
theorem lxS_c (a : ∀ i, i < n → s i = u i) {lim : Nat} : ∀ f i, lxS s n lim f i = lxS u n lim f i
  | 0, i => rfl
  | f + 1, i => by
    unfold lxS
    by_cases c : i < min n lim
    · rw [if_pos c, if_pos c, a i (by omega), lxT_c a (by omega), lxN_c a (by omega), lxS_c a f (i + 1), lxS_c a f (lxN u n i)]
    · rw [if_neg c, if_neg c]
theorem lxs_c (a : ∀ i, i < n → s i = u i) {lim i : Nat} : lxs s n lim i = lxs u n lim i := lxS_c a _ _
end
