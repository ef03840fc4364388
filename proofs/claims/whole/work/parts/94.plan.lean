/-! plans: two bits a year -/
theorem pl_sh : ∀ i : Fin 21, ((((Int32.ofInt (2 * (i.val : Int))).toInt64 &&& 63).toBitVec.smod 64).toNat = 2 * i.val) ∧ ((UInt64.mod ((Int32.ofInt (2 * (i.val : Int))).toInt64.toUInt64 &&& Int64.toUInt64 63) 64).toBitVec.toNat = 2 * i.val) := by decide +kernel
def pb2 (X : BitVec 64) (i : Nat) : BitVec 2 := (X >>> (2 * i)).setWidth 2
theorem pl_low (Y : BitVec 64) : (Y.signExtend 32 &&& 3#32).toInt = ((Y.setWidth 2).toNat : Int) := by
  have e : Y.signExtend 32 &&& 3#32 = (Y.setWidth 2).setWidth 32 := by
    apply BitVec.eq_of_getLsbD_eq
    intro i hi
    have o : ∀ i : Fin 32, (3#32).getLsbD i.val = decide (i.val < 2) := by decide +kernel
    have oi := o ⟨i, hi⟩
    dsimp only at oi
    rw [BitVec.getLsbD_and, BitVec.getLsbD_signExtend, BitVec.getLsbD_setWidth, BitVec.getLsbD_setWidth, oi]
    have a1 : i < 64 := by omega
    simp [hi, a1, Bool.and_comm]
  have lt : (Y.setWidth 2).toNat < 2 ^ 2 := (Y.setWidth 2).isLt
  have t : ((Y.setWidth 2).setWidth 32).toNat = (Y.setWidth 2).toNat := by
    rw [BitVec.toNat_setWidth]
    omega
  rw [e, BitVec.toInt_eq_toNat_of_lt (by rw [t]; omega), t]
theorem pl_get {v : Int} {i : Nat} (hi : i ≤ 20) : am_and (am_l2i (am_lushr v (2 * (i : Int)))) 3 = ((pb2 (Int64.ofInt v).toBitVec i).toNat : Int) := by
  have e := (pl_sh ⟨i, by omega⟩).2
  dsimp only at e
  unfold am_and am_l2i am_lushr
  rw [Int32.ofInt_toInt, Int64.ofInt_toInt]
  show ((((Int64.ofInt v).toBitVec >>> (UInt64.mod ((Int32.ofInt (2 * (i : Int))).toInt64.toUInt64 &&& Int64.toUInt64 63) 64).toBitVec.toNat).signExtend 32) &&& 3#32).toInt = _
  rw [e, pl_low]
  rfl
theorem pl_put {v w : Int} {k : Nat} (hk : k ≤ 20) : (Int64.ofInt (am_lor v (am_lshl w (2 * (k : Int))))).toBitVec = (Int64.ofInt v).toBitVec ||| ((Int64.ofInt w).toBitVec <<< (2 * k)) := by
  have e := (pl_sh ⟨k, by omega⟩).1
  dsimp only at e
  unfold am_lor am_lshl
  rw [Int64.ofInt_toInt, Int64.ofInt_toInt]
  show (Int64.ofInt v).toBitVec ||| ((Int64.ofInt w).toBitVec <<< (((Int32.ofInt (2 * (k : Int))).toInt64 &&& 63).toBitVec.smod 64).toNat) = _
  rw [e]
theorem pb2_lt {X W : BitVec 64} {i k : Nat} (h : i < k) : pb2 (X ||| (W <<< (2 * k))) i = pb2 X i := by
  unfold pb2
  apply BitVec.eq_of_getLsbD_eq
  intro j hj
  have a : 2 * i + j < 2 * k := by omega
  rw [BitVec.getLsbD_setWidth, BitVec.getLsbD_setWidth, BitVec.getLsbD_ushiftRight, BitVec.getLsbD_ushiftRight, BitVec.getLsbD_or, BitVec.getLsbD_shiftLeft]
  simp [a]
theorem pb2_eq {X W : BitVec 64} {k : Nat} (hk : k ≤ 20) (hX : ∀ j, 2 * k ≤ j → X.getLsbD j = false) : pb2 (X ||| (W <<< (2 * k))) k = W.setWidth 2 := by
  unfold pb2
  apply BitVec.eq_of_getLsbD_eq
  intro j hj
  have a : 2 * k + j < 64 := by omega
  have b : ¬ 2 * k + j < 2 * k := by omega
  rw [BitVec.getLsbD_setWidth, BitVec.getLsbD_setWidth, BitVec.getLsbD_ushiftRight, BitVec.getLsbD_or, BitVec.getLsbD_shiftLeft, hX (2 * k + j) (by omega), show 2 * k + j - 2 * k = j from by omega]
  simp [a, b]
theorem pb2_hi {X W : BitVec 64} {k : Nat} (hX : ∀ j, 2 * k ≤ j → X.getLsbD j = false) (hW : W.toNat < 4) : ∀ j, 2 * (k + 1) ≤ j → (X ||| (W <<< (2 * k))).getLsbD j = false := by
  intro j hj
  have w : W.getLsbD (j - 2 * k) = false := by
    show W.toNat.testBit (j - 2 * k) = false
    refine Nat.testBit_lt_two_pow (Nat.lt_of_lt_of_le hW ?_)
    have : 2 ^ 2 ≤ 2 ^ (j - 2 * k) := Nat.pow_le_pow_right (by omega) (by omega)
    omega
  rw [BitVec.getLsbD_or, BitVec.getLsbD_shiftLeft, hX j (by omega), w]
  simp
theorem w4 : ∀ w : Fin 4, (Int64.ofInt (w.val : Int)).toBitVec.toNat = w.val := by decide +kernel
theorem bFa_rg (P : bP) (V : Nat → Int) : 0 ≤ bFa P V ∧ bFa P V ≤ 2 := by
  unfold bFa
  split
  · omega
  · split
    · omega
    · omega
theorem bA_rg (P : bP) (i : Nat) : 0 ≤ bA P i 0 ∧ bA P i 0 ≤ 2 := by
  cases i with
  | zero =>
    have e : bA P 0 0 = 0 := by simp [bA]
    rw [e]
    omega
  | succ i =>
    have e : bA P (i + 1) 0 = bFa P (bV P i) := by simp [bA]
    rw [e]
    exact bFa_rg _ _
/-- the years of a plan -/
def plR (v : Int) (P : bP) (t : Int) : Prop := ∀ i : Nat, (i : Int) ≤ t → am_and (am_l2i (am_lushr v (2 * (i : Int)))) 3 = bA P i 0
section
variable {d : Nat} {Y : am_Y} {h : am_H} {o : Nat} {t : Int} {P : bP}
theorem ac_freePlan (hY : am_at Y o am_L0) (ht : 0 ≤ t ∧ t ≤ 20) (k : ∀ i : Nat, (i : Int) ≤ t → h (o + 2) (i * 10) = bA P i 0) : am_cJ am_Best_freePlan (d + 2) Y [.inr (.inr o)] h (fun v h1 => h1 = h ∧ plR v P t) := by
  refine am_Met.of (by decide) rfl (Nat.le_of_ble_eq_true rfl) (ab_Best_freePlan_0 hY ?_)
  have lp : ∀ i : Int, ∀ v : Int, 0 ≤ i → i ≤ 21 → (∀ j : Nat, (j : Int) < i → (j : Int) ≤ t → ((pb2 (Int64.ofInt v).toBitVec j).toNat : Int) = bA P j 0) → (i ≤ t + 1 → ∀ j : Nat, 2 * i ≤ (j : Int) → (Int64.ofInt v).toBitVec.getLsbD j = false) → aw_Best_freePlan_4 (d + 2) Y o v i h (am_qJ fun v h1 => h1 = h ∧ plR v P t) := by
    refine am_up (fun i => ∀ v : Int, 0 ≤ i → i ≤ 21 → (∀ j : Nat, (j : Int) < i → (j : Int) ≤ t → ((pb2 (Int64.ofInt v).toBitVec j).toNat : Int) = bA P j 0) → (i ≤ t + 1 → ∀ j : Nat, 2 * i ≤ (j : Int) → (Int64.ofInt v).toBitVec.getLsbD j = false) → aw_Best_freePlan_4 (d + 2) Y o v i h (am_qJ fun v h1 => h1 = h ∧ plR v P t)) 21 ?_ ?_
    · intro i hi v h0 h21 e1 e2
      refine ab_Best_freePlan_4 hY ⟨fun _ => ?_, fun z => by omega⟩
      rw [am_qJ_s]
      refine ⟨rfl, fun j hj => ?_⟩
      rw [pl_get (by omega)]
      exact e1 j (by omega) hj
    · intro i hi ih v h0 h21 e1 e2
      refine ab_Best_freePlan_4 hY ⟨fun z => by omega, fun _ => eK (ac_actAt (d := 0) hY) (by omega) ⟨by unfold am_ri; omega, by unfold am_ri; omega, ?_⟩⟩
      rw [if_pos (by omega)]
      have ii : ((i.toNat : Nat) : Int) = i := by omega
      have put := pl_put (v := v) (w := h (o + 2) (i * 10 + 0).toNat) (k := i.toNat) (by omega)
      rw [ii] at put
      refine ih _ (by omega) (by omega) (fun j hj ht2 => ?_) (fun hi2 j hj => ?_)
      · rw [put]
        by_cases ji : j = i.toNat
        · have r := bA_rg P j
          have kj := k j ht2
          rw [show j * 10 = (i * 10 + 0).toNat from by omega] at kj
          rw [ji, pb2_eq (by omega) fun j2 hj2 => e2 (by omega) j2 (by omega), kj, ji] 
          have w := w4 ⟨(bA P j 0).toNat, by omega⟩
          dsimp only at w
          rw [ji] at w r
          rw [show (((bA P i.toNat 0).toNat : Nat) : Int) = bA P i.toNat 0 from by omega] at w
          rw [BitVec.toNat_setWidth, w]
          omega
        · rw [pb2_lt (by omega)]
          exact e1 j (by omega) ht2
      · rw [put]
        have r := bA_rg P i.toNat
        have kj := k i.toNat (by omega)
        rw [show i.toNat * 10 = (i * 10 + 0).toNat from by omega] at kj
        refine pb2_hi (fun j2 hj2 => e2 (by omega) j2 (by omega)) ?_ j (by omega)
        have w := w4 ⟨(bA P i.toNat 0).toNat, by omega⟩
        dsimp only at w
        rw [show (((bA P i.toNat 0).toNat : Nat) : Int) = bA P i.toNat 0 from by omega] at w
        rw [kj, w]
        omega
  refine lp 0 0 (by omega) (by omega) (fun j hj _ => by omega) fun _ j _ => ?_
  have z : (Int64.ofInt 0).toBitVec = 0#64 := rfl
  rw [z]
  simp
theorem ac_planned {v : Int} {i : Nat} (hp : plR v P t) (hi : (i : Int) ≤ t) (ht : t ≤ 20) : am_cI am_Run_planned d Y [.inr (.inl v), .inl (i : Int)] h (fun r h1 => h1 = h ∧ r = bA P i 0) := by
  refine am_Met.of (by decide) rfl (Nat.le_of_ble_eq_true rfl) (ab_Run_planned_0 ⟨by unfold am_ri; omega, ?_⟩)
  rw [am_qI_s]
  exact ⟨rfl, hp i hi⟩
end
