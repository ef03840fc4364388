/-! a village's text, read: persons; what every village keeps -/
abbrev hb (x k : Int) : Prop := am_and (am_shr x k) 1 = 1
def pc (x : Int) : Int := (if hb x 0 then 1 else 0) + (if hb x 1 then 1 else 0) + (if hb x 2 then 1 else 0) + (if hb x 3 then 1 else 0) + (if hb x 4 then 1 else 0) + (if hb x 5 then 1 else 0)
theorem hb_t : ∀ x : Fin 64, ∀ k : Fin 6, (¬ hb (x.val : Int) (k.val : Int) → 0 ≤ am_or (x.val : Int) (am_shl 1 (k.val : Int)) ∧ am_or (x.val : Int) (am_shl 1 (k.val : Int)) ≤ 63 ∧ pc (am_or (x.val : Int) (am_shl 1 (k.val : Int))) = pc (x.val : Int) + 1 ∧ pc (x.val : Int) ≤ 5 ∧ ∀ j : Fin 6, hb (am_or (x.val : Int) (am_shl 1 (k.val : Int))) (j.val : Int) ↔ (j = k ∨ hb (x.val : Int) (j.val : Int))) := by decide +kernel
theorem hb_pc : ∀ x : Fin 64, 0 ≤ pc (x.val : Int) ∧ pc (x.val : Int) ≤ 6 ∧ ((∀ j : Fin 6, ¬ hb (x.val : Int) (j.val : Int)) → x.val = 0) := by decide +kernel
theorem hb_or {x k : Int} (hx : 0 ≤ x ∧ x ≤ 63) (hk : 0 ≤ k ∧ k < 6) (hn : ¬ hb x k) : 0 ≤ am_or x (am_shl 1 k) ∧ am_or x (am_shl 1 k) ≤ 63 ∧ pc (am_or x (am_shl 1 k)) = pc x + 1 ∧ pc x ≤ 5 ∧ ∀ j : Nat, j < 6 → (hb (am_or x (am_shl 1 k)) (j : Int) ↔ ((j : Int) = k ∨ hb x (j : Int))) := by
  have ex : ((⟨x.toNat, by omega⟩ : Fin 64).val : Int) = x := by simp only; omega
  have ek : ((⟨k.toNat, by omega⟩ : Fin 6).val : Int) = k := by simp only; omega
  have t := hb_t ⟨x.toNat, by omega⟩ ⟨k.toNat, by omega⟩
  rw [ex, ek] at t
  obtain ⟨t1, t2, t3, t4, t5⟩ := t hn
  refine ⟨t1, t2, t3, t4, fun j hj => ?_⟩
  have := t5 ⟨j, hj⟩
  rw [this]
  refine or_congr ⟨fun e => ?_, fun e => ?_⟩ Iff.rfl
  · have := congrArg Fin.val e
    simp only at this
    omega
  · apply Fin.ext
    simp only
    omega
theorem pc_rg {x : Int} (hx : 0 ≤ x ∧ x ≤ 63) : 0 ≤ pc x ∧ pc x ≤ 6 := by
  have ex : ((⟨x.toNat, by omega⟩ : Fin 64).val : Int) = x := by simp only; omega
  have t := hb_pc ⟨x.toNat, by omega⟩
  rw [ex] at t
  exact ⟨t.1, t.2.1⟩
theorem hb_none {x : Int} (hx : 0 ≤ x ∧ x ≤ 63) (hn : ∀ j : Nat, j < 6 → ¬ hb x (j : Int)) : x = 0 := by
  have ex : ((⟨x.toNat, by omega⟩ : Fin 64).val : Int) = x := by simp only; omega
  have t := hb_pc ⟨x.toNat, by omega⟩
  rw [ex] at t
  have := t.2.2 fun j => hn j.val j.isLt
  simp only at this
  omega
/-- a sum -/
def sm (f : Nat → Int) : Nat → Int
  | 0 => 0
  | n + 1 => sm f n + f n
theorem sm_congr {f g : Nat → Int} : ∀ n, (∀ q, q < n → f q = g q) → sm f n = sm g n
  | 0, _ => rfl
  | n + 1, h => by
    unfold sm
    rw [sm_congr n fun q hq => h q (by omega), h n (by omega)]
theorem sm_le {f : Nat → Int} {c : Int} : ∀ n : Nat, (∀ q, q < n → 0 ≤ f q ∧ f q ≤ c) → 0 ≤ sm f n ∧ sm f n ≤ c * n
  | 0, _ => by simp [sm]
  | n + 1, h => by
    have := sm_le n fun q hq => h q (by omega)
    have := h n (by omega)
    unfold sm
    have e : c * ((n + 1 : Nat) : Int) = c * n + c := by
      rw [Int.natCast_add, Int.mul_add]
      simp
    omega
theorem sm_set {f g : Nat → Int} {p : Nat} {y : Int} (hp : g p = f p + y) (hg : ∀ q, q ≠ p → g q = f q) : ∀ n : Nat, sm g n = sm f n + if p < n then y else 0
  | 0 => by simp [sm]
  | n + 1 => by
    have ih := sm_set hp hg n
    unfold sm
    by_cases e : n = p
    · subst e
      rw [ih, if_neg (by omega), if_pos (by omega), hp]
      omega
    · rw [ih, hg n e]
      by_cases c : p < n
      · rw [if_pos c, if_pos (by omega)]
        omega
      · rw [if_neg c, if_neg (by omega)]
        omega
/-- the ranges of a village's cells -/
def wlo (i : Nat) : Int := if i = 3 then 1 else 0
def whi (i : Nat) : Int := if i = 0 then 6 else if i = 1 then 8 else if i = 2 then 48 else if i = 3 then 9 else if i = 4 then 999 else if i < 22 then 99 else if i < 33 then 9 else if i < 83 then 99 else if i < 93 then 63 else if i < 224 then 10 else if i < 321 then 7 else 0
def wr (R : Nat → Int) : Prop := ∀ i, i < 325 → wlo i ≤ R i ∧ R i ≤ whi i
theorem wr_up {R : Nat → Int} {j : Nat} {x : Int} (w : wr R) (hx : wlo j ≤ x ∧ x ≤ whi j) : wr (up R j x) := by
  intro i hi
  unfold up
  split
  · next e => rw [e]; exact hx
  · exact w i hi
def co (R : Nat → Int) (P : Int) : Prop :=
  R 2 = sm (fun q => pc (R (85 + q))) 8 ∧
  (∀ n : Nat, (n : Int) < R 2 → 0 ≤ R (225 + 2 * n) ∧ R (225 + 2 * n) < P ∧ 0 ≤ R (226 + 2 * n) ∧ R (226 + 2 * n) < R 0) ∧
  (∀ q k : Nat, q < 8 → k < 6 → (hb (R (85 + q)) (k : Int) ↔ ∃ n : Nat, (n : Int) < R 2 ∧ R (225 + 2 * n) = q ∧ R (226 + 2 * n) = k)) ∧
  ∀ n n' : Nat, n < n' → (n' : Int) < R 2 → ¬ (R (225 + 2 * n) = R (225 + 2 * n') ∧ R (226 + 2 * n) = R (226 + 2 * n'))
theorem co.same {R R' : Nat → Int} {P P' : Int} (c : co R P) (h2 : R 2 ≤ 48) (h0 : R 0 ≤ R' 0) (hP : P ≤ P') (he : ∀ i, i = 2 ∨ (85 ≤ i ∧ i < 93) ∨ (225 ≤ i ∧ i < 321) → R' i = R i) : co R' P' := by
  obtain ⟨c1, c2, c3, c4⟩ := c
  have e2 := he 2 (by omega)
  have eA : ∀ n : Nat, (n : Int) < R 2 → R' (225 + 2 * n) = R (225 + 2 * n) := fun n hn => he _ (by omega)
  have eB : ∀ n : Nat, (n : Int) < R 2 → R' (226 + 2 * n) = R (226 + 2 * n) := fun n hn => he _ (by omega)
  refine ⟨?_, ?_, ?_, ?_⟩
  · rw [e2, c1]
    exact sm_congr 8 fun q hq => congrArg pc (he (85 + q) (by omega)).symm
  · intro n hn
    rw [e2] at hn
    rw [eA n hn, eB n hn]
    have := c2 n hn
    omega
  · intro q k hq hk
    rw [he (85 + q) (by omega), c3 q k hq hk, e2]
    refine ⟨fun ⟨n, hn, ha, hb⟩ => ⟨n, hn, by rw [eA n hn]; exact ha, by rw [eB n hn]; exact hb⟩, fun ⟨n, hn, ha, hb⟩ => ⟨n, hn, by rw [← eA n hn]; exact ha, by rw [← eB n hn]; exact hb⟩⟩
  · intro n n' hnn hn
    rw [e2] at hn
    rw [eA n (by omega), eB n (by omega), eA n' hn, eB n' hn]
    exact c4 n n' hnn hn
def pNeed (R : Nat → Int) (p k : Int) : Nat → Int := up (up (up (up R (85 + p).toNat (am_or (R (85 + p).toNat) (am_shl 1 k))) (225 + 2 * R 2).toNat p) (225 + 2 * R 2 + 1).toNat k) 2 (R 2 + 1)
theorem co.lt {R : Nat → Int} {P p k : Int} (c : co R P) (w : wr R) (hp : 0 ≤ p ∧ p < 8) (hk : 0 ≤ k ∧ k < 6) (hn : ¬ hb (R (85 + p).toNat) k) : 0 ≤ R 2 ∧ R 2 < 48 := by
  have hR : ∀ q, q < 8 → 0 ≤ R (85 + q) ∧ R (85 + q) ≤ 63 := fun q hq => by
    have := w (85 + q) (by omega)
    unfold wlo whi at this
    rw [if_neg (by omega), if_neg (by omega), if_neg (by omega), if_neg (by omega), if_neg (by omega), if_neg (by omega), if_neg (by omega), if_neg (by omega), if_neg (by omega), if_pos (by omega)] at this
    exact this
  have e : (85 + p).toNat = 85 + p.toNat := by omega
  rw [e] at hn
  have h5 := (hb_or (hR p.toNat (by omega)) hk hn).2.2.2.1
  rw [c.1]
  have h0 := sm_le (f := fun q => pc (R (85 + q))) (c := 6) 8 fun q hq => pc_rg (hR q hq)
  have h1 := sm_set (f := fun q => pc (R (85 + q))) (g := fun q => if q = p.toNat then pc (R (85 + q)) + 1 else pc (R (85 + q))) (p := p.toNat) (y := 1) (by simp only [if_true]) (fun q hq => by simp only [if_neg hq]) 8
  have h2 := sm_le (f := fun q => if q = p.toNat then pc (R (85 + q)) + 1 else pc (R (85 + q))) (c := 6) 8 fun q hq => by
    have := pc_rg (hR q hq)
    split
    · next e => rw [e] at this ⊢; omega
    · omega
  rw [if_pos (by omega)] at h1
  omega
