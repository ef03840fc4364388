/-! bits of eight -/
def by8 (x : Int) : Prop := 0 ≤ x ∧ x < 256
theorem i32n {a : Int} (h : by8 a) : (Int32.ofInt a).toBitVec.toNat = a.toNat := by
  have t : ∀ x : Fin 256, (Int32.ofInt (x.val : Int)).toBitVec.toNat = x.val := by decide +kernel
  have := t ⟨a.toNat, by unfold by8 at h; omega⟩
  have e : ((a.toNat : Nat) : Int) = a := by unfold by8 at h; omega
  dsimp only at this
  rw [e] at this
  exact this
theorem i32t {X : Int32} (h : X.toBitVec.toNat < 256) : X.toInt = (X.toBitVec.toNat : Int) :=
  BitVec.toInt_eq_toNat_of_lt (by omega)
theorem hb_b {a k : Int} (h : by8 a) (hk : 0 ≤ k ∧ k < 8) : hb a k ↔ a.toNat.testBit k.toNat = true := by
  have t : ∀ x : Fin 256, ∀ k : Fin 8, hb (x.val : Int) (k.val : Int) ↔ x.val.testBit k.val = true := by decide +kernel
  have := t ⟨a.toNat, by unfold by8 at h; omega⟩ ⟨k.toNat, by omega⟩
  have e : ((a.toNat : Nat) : Int) = a := by unfold by8 at h; omega
  have e2 : ((k.toNat : Nat) : Int) = k := by omega
  dsimp only at this
  rw [e, e2] at this
  exact this
theorem and_b {e z : Int} (h : by8 e) : am_and e z = ((e.toNat &&& (Int32.ofInt z).toBitVec.toNat : Nat) : Int) ∧ by8 (am_and e z) := by
  have le : (Int32.ofInt e &&& Int32.ofInt z).toBitVec.toNat = e.toNat &&& (Int32.ofInt z).toBitVec.toNat := by
    rw [Int32.toBitVec_and, BitVec.toNat_and, i32n h]
  have lt : e.toNat &&& (Int32.ofInt z).toBitVec.toNat ≤ e.toNat := Nat.and_le_left
  unfold by8 at h ⊢
  have eq : am_and e z = ((e.toNat &&& (Int32.ofInt z).toBitVec.toNat : Nat) : Int) := by
    unfold am_and
    rw [i32t (by rw [le]; omega), le]
  exact ⟨eq, by rw [eq]; omega⟩
theorem or_b {a b : Int} (h : by8 a) (g : by8 b) : am_or a b = ((a.toNat ||| b.toNat : Nat) : Int) ∧ by8 (am_or a b) := by
  have le : (Int32.ofInt a ||| Int32.ofInt b).toBitVec.toNat = a.toNat ||| b.toNat := by
    rw [Int32.toBitVec_or, BitVec.toNat_or, i32n h, i32n g]
  unfold by8 at h g
  have lt : a.toNat ||| b.toNat < 2 ^ 8 := Nat.or_lt_two_pow (by omega) (by omega)
  have eq : am_or a b = ((a.toNat ||| b.toNat : Nat) : Int) := by
    unfold am_or
    rw [i32t (by rw [le]; omega), le]
  unfold by8
  exact ⟨eq, by rw [eq]; omega⟩
theorem hb_and {a b k : Int} (h : by8 a) (g : by8 b) (hk : 0 ≤ k ∧ k < 8) : by8 (am_and a b) ∧ (hb (am_and a b) k ↔ hb a k ∧ hb b k) := by
  have t := and_b (z := b) h
  refine ⟨t.2, ?_⟩
  rw [hb_b t.2 hk, hb_b h hk, hb_b g hk, t.1, i32n g, Int.toNat_natCast, Nat.testBit_and, Bool.and_eq_true]
theorem hb_or8 {a b k : Int} (h : by8 a) (g : by8 b) (hk : 0 ≤ k ∧ k < 8) : by8 (am_or a b) ∧ (hb (am_or a b) k ↔ hb a k ∨ hb b k) := by
  have t := or_b h g
  refine ⟨t.2, ?_⟩
  rw [hb_b t.2 hk, hb_b h hk, hb_b g hk, t.1, Int.toNat_natCast, Nat.testBit_or, Bool.or_eq_true]
theorem hb_not {a b k : Int} (h : by8 a) (g : by8 b) (hk : 0 ≤ k ∧ k < 8) : by8 (am_and a (am_xor b (-1))) ∧ (hb (am_and a (am_xor b (-1))) k ↔ hb a k ∧ ¬ hb b k) := by
  have t := and_b (z := am_xor b (-1)) h
  refine ⟨t.2, ?_⟩
  have x : (Int32.ofInt (am_xor b (-1))).toBitVec.toNat = b.toNat ^^^ 4294967295 := by
    unfold am_xor
    rw [Int32.ofInt_toInt, Int32.toBitVec_xor, BitVec.toNat_xor, i32n g]
    rfl
  have o : ∀ k : Fin 8, (4294967295 : Nat).testBit k.val = true := by decide +kernel
  have ok := o ⟨k.toNat, by omega⟩
  dsimp only at ok
  rw [hb_b t.2 hk, hb_b h hk, hb_b g hk, t.1, x, Int.toNat_natCast, Nat.testBit_and, Nat.testBit_xor, ok, Bool.and_eq_true]
  cases b.toNat.testBit k.toNat <;> simp
theorem hb_ext {a b : Int} (h : by8 a) (g : by8 b) (e : ∀ k : Nat, k < 8 → (hb a (k : Int) ↔ hb b (k : Int))) : a = b := by
  have t : ∀ x : Fin 256, ((if hb (x.val : Int) 0 then 1 else 0) + (if hb (x.val : Int) 1 then 2 else 0) + (if hb (x.val : Int) 2 then 4 else 0) + (if hb (x.val : Int) 3 then 8 else 0) + (if hb (x.val : Int) 4 then 16 else 0) + (if hb (x.val : Int) 5 then 32 else 0) + (if hb (x.val : Int) 6 then 64 else 0) + (if hb (x.val : Int) 7 then 128 else 0) : Int) = x.val := by decide +kernel
  have ta := t ⟨a.toNat, by unfold by8 at h; omega⟩
  have tb := t ⟨b.toNat, by unfold by8 at g; omega⟩
  have ea : ((a.toNat : Nat) : Int) = a := by unfold by8 at h; omega
  have eb : ((b.toNat : Nat) : Int) = b := by unfold by8 at g; omega
  dsimp only at ta tb
  rw [ea] at ta
  rw [eb] at tb
  rw [← ta, ← tb]
  have z (k : Nat) (hk : k < 8) (c : Int) : (if hb a (k : Int) then c else 0) = (if hb b (k : Int) then c else 0) := by
    by_cases q : hb a (k : Int)
    · rw [if_pos q, if_pos ((e k hk).mp q)]
    · rw [if_neg q, if_neg fun w => q ((e k hk).mpr w)]
  have z0 := z 0 (by omega) 1
  have z1 := z 1 (by omega) 2
  have z2 := z 2 (by omega) 4
  have z3 := z 3 (by omega) 8
  have z4 := z 4 (by omega) 16
  have z5 := z 5 (by omega) 32
  have z6 := z 6 (by omega) 64
  have z7 := z 7 (by omega) 128
  exact (congr (congrArg _ (congr (congrArg _ (congr (congrArg _ (congr (congrArg _ (congr (congrArg _ (congr (congrArg _ (congr (congrArg _ z0) z1)) z2)) z3)) z4)) z5)) z6)) z7)
theorem by8_0 : by8 0 := ⟨by decide, by decide⟩
theorem all_b {P : Int} (hP : 0 ≤ P ∧ P ≤ 8) : by8 (am_shl 1 P - 1) ∧ ∀ k : Nat, k < 8 → (hb (am_shl 1 P - 1) (k : Int) ↔ (k : Int) < P) := by
  have t : ∀ x : Fin 9, (0 ≤ am_shl 1 (x.val : Int) - 1 ∧ am_shl 1 (x.val : Int) - 1 < 256) ∧ ∀ k : Fin 8, (hb (am_shl 1 (x.val : Int) - 1) (k.val : Int) ↔ k.val < x.val) := by decide +kernel
  have := t ⟨P.toNat, by omega⟩
  have e : ((P.toNat : Nat) : Int) = P := by omega
  dsimp only at this
  rw [e] at this
  refine ⟨this.1, fun k hk => ?_⟩
  rw [this.2 ⟨k, hk⟩]
  dsimp only
  omega
theorem shl_b {p : Nat} (hp : p < 8) : by8 (am_shl 1 (p : Int)) ∧ ∀ k : Nat, k < 8 → (hb (am_shl 1 (p : Int)) (k : Int) ↔ k = p) := by
  have t : ∀ x : Fin 8, (0 ≤ am_shl 1 (x.val : Int) ∧ am_shl 1 (x.val : Int) < 256) ∧ ∀ k : Fin 8, (hb (am_shl 1 (x.val : Int)) (k.val : Int) ↔ k.val = x.val) := by decide +kernel
  have := t ⟨p, hp⟩
  exact ⟨this.1, fun k hk => this.2 ⟨k, hk⟩⟩
