/-! contracts: the class's bonds -/
section
variable {d : Nat} {Y : am_Y} {h : am_H} {b : Nat} {Q : Option am_V → am_H → Prop}
theorem ac_isBond {p n : Int} (hp : 0 ≤ p ∧ p < 8) (hn : 0 ≤ n ∧ n < 48) : am_cI am_Bonds_isBond d Y [.inl p, .inl n] h (fun r h1 => h1 = h ∧ r = 1) := by
  refine am_Met.of (by decide) rfl (Nat.le_of_ble_eq_true rfl) (ab_Bonds_isBond_0 ?_)
  simp only [am_qI_s]
  exact ⟨fun _ => by omega, fun _ => ⟨fun _ => by omega, fun _ => ⟨fun _ => by omega, fun _ => ⟨fun _ => by omega, fun _ => ⟨trivial, by trivial⟩⟩⟩⟩⟩
theorem isBondK {p n : Int} {K : Int → am_H → Prop} (hp : 0 ≤ p ∧ p < 8) (hn : 0 ≤ n ∧ n < 48) (hd : 0 < d) (hK : K 1 h) : am_kI am_Bonds_isBond d Y [.inl p, .inl n] h K :=
  am_kI.of (ac_isBond (d := 0) hp hn) hd (by rintro x h1 - - ⟨rfl, rfl⟩; exact hK)
theorem lastYearK {p n : Int} {K : Int → am_H → Prop} (hY : am_at Y b am_L1) (hp : 0 ≤ p ∧ p < 8) (hn : 0 ≤ n ∧ n < 48) (hd : 1 < d) (hK : K (h (b + 2) (p * 48 + n).toNat) h) : am_kI am_Bonds_lastYear d Y [.inr (.inr b), .inl p, .inl n] h K := by
  refine ⟨1, hd, am_Met.of (by decide) rfl (Nat.le_of_ble_eq_true rfl) (ab_Bonds_lastYear_0 hY (isBondK hp hn (by omega) ⟨fun z => absurd z (by decide), fun _ => ⟨⟨by omega, by omega⟩, ⟨by omega, by omega⟩, ⟨by omega, by omega⟩, ?_⟩⟩))⟩
  rw [am_qI_s]
  exact hK
theorem isDueK {p n y : Int} {K : Int → am_H → Prop} (hY : am_at Y b am_L1) (hp : 0 ≤ p ∧ p < 8) (hn : 0 ≤ n ∧ n < 48) (hd : 2 < d) (hK : K (if h (b + 1) (p * 48 + n).toNat < y ∧ y ≤ h (b + 2) (p * 48 + n).toNat then 1 else 0) h) : am_kI am_Bonds_isDue d Y [.inr (.inr b), .inl p, .inl n, .inl y] h K := by
  refine ⟨2, hd, am_Met.of (by decide) rfl (Nat.le_of_ble_eq_true rfl) (ab_Bonds_isDue_0 hY ⟨⟨by omega, by omega⟩, ⟨by omega, by omega⟩, isBondK hp hn (by omega) ⟨fun z => absurd z (by decide), fun _ => ⟨⟨by omega, by omega⟩, fun c => ?_, fun c => ⟨⟨by omega, by omega⟩, fun c2 => ?_, fun c2 => ?_⟩⟩⟩⟩)⟩
  · rw [am_qI_s]
    rw [if_neg (by omega)] at hK
    exact hK
  · rw [am_qI_s]
    rw [if_neg (by omega)] at hK
    exact hK
  · rw [am_qI_s]
    rw [if_pos ⟨c, c2⟩] at hK
    exact hK
/-- bonds of p that hold in year y or later -/
def bdS (h : am_H) (b : Nat) (p : Nat) (y : Int) : Int := sm (fun n => if y ≤ h (b + 2) (48 * p + n) then 1 else 0) 48
theorem bdS_n (h : am_H) (b : Nat) (p : Nat) (y : Int) (n : Nat) : 0 ≤ sm (fun n => if y ≤ h (b + 2) (48 * p + n) then (1 : Int) else 0) n ∧ sm (fun n => if y ≤ h (b + 2) (48 * p + n) then (1 : Int) else 0) n ≤ n :=
  sm_01 n fun k _ => by split <;> omega
theorem standingK {p y : Int} {K : Int → am_H → Prop} (hY : am_at Y b am_L1) (hp : 0 ≤ p ∧ p < 8) (hd : 0 < d) (hK : K (bdS h b p.toNat y) h) : am_kI am_Bonds_standing d Y [.inr (.inr b), .inl p, .inl y] h K := by
  refine ⟨0, hd, am_Met.of (by decide) rfl (Nat.le_of_ble_eq_true rfl) (ab_Bonds_standing_0 hY ⟨⟨by omega, by omega⟩, ?_⟩)⟩
  have key : ∀ n : Nat, n ≤ 48 → ∀ z : Int, z = sm (fun n => if y ≤ h (b + 2) (48 * p.toNat + n) then (1 : Int) else 0) n → aw_Bonds_standing_8 0 Y b p y z (p * 48 + n) h (am_qI K) := by
    refine am_upN _ 48 ?_ ?_
    · intro z ez
      refine ab_Bonds_standing_8 hY ⟨fun w => by omega, fun _ => ⟨⟨by omega, by omega⟩, ⟨by omega, by omega⟩, fun _ => ?_, fun w => by omega⟩⟩
      rw [am_qI_s, ez]
      exact hK
    · intro n hn ih z ez
      have bz := bdS_n h b p.toNat y n
      rw [← ez] at bz
      have ei : (p * 48 + (n : Int)).toNat = 48 * p.toNat + n := by omega
      refine ab_Bonds_standing_8 hY ⟨fun w => by omega, fun _ => ⟨⟨by omega, by omega⟩, ⟨by omega, by omega⟩, fun w => by omega, fun _ => ⟨fun w => by omega, fun _ => ⟨⟨by omega, by omega⟩, ?_⟩⟩⟩⟩
      rw [ei]
      have step : ∀ c : Int, c = (if y ≤ h (b + 2) (48 * p.toNat + n) then 1 else 0) → aw_Bonds_standing_8 0 Y b p y (z + c) (p * 48 + n + 1) h (am_qI K) := by
        intro c ec
        have := ih (z + c) (by rw [ez, ec]; rfl)
        rw [show p * 48 + ((n + 1 : Nat) : Int) = p * 48 + n + 1 by omega] at this
        exact this
      refine ⟨fun w => ⟨⟨by omega, by omega⟩, ⟨by omega, by omega⟩, step 0 (by rw [if_neg (by omega)])⟩, fun w => ⟨⟨by omega, by omega⟩, ⟨by omega, by omega⟩, step 1 (by rw [if_pos w])⟩⟩
  have := key 0 (by omega) 0 rfl
  rw [show p * 48 + ((0 : Nat) : Int) = p * 48 by omega] at this
  exact this
theorem isAboveK {v : Nat} {p n y : Int} {K : Int → am_H → Prop} (hY : am_at Y b am_L1) (hYv : am_at Y v am_L9) (hp : 0 ≤ p ∧ p < 8) (hpv : p < h v 2) (hn : 0 ≤ n ∧ n < 48) (hd : 3 < d) (hK : K (if h (b + 2) (p * 48 + n).toNat < y ∧ h (v + 5) p.toNat ≤ bdS h b p.toNat y then 1 else 0) h) : am_kI am_Bonds_isAbove d Y [.inr (.inr b), .inr (.inr v), .inl p, .inl n, .inl y] h K := by
  have at29 : ∀ s : Int, (s = 0 ∨ s = 1) → (s = 0 ↔ h (b + 2) (p * 48 + n).toNat < y) → aw_Bonds_isAbove_29 3 Y b v p y s h (am_qI K) := by
    intro s hs hsi
    refine ab_Bonds_isAbove_29 hY hYv (am_kI.of (ac_hasPerson (d := 0) hYv) (by omega) ?_)
    rintro x h1 - - ⟨rfl, rfl⟩
    unfold vin
    rw [if_pos ⟨hp.1, hpv⟩]
    refine ⟨fun z => absurd z (by decide), fun _ => ⟨fun w => ?_, fun w => standingK hY hp (by omega) ⟨hp, fun w2 => ?_, fun w2 => ?_⟩⟩⟩
    · rw [am_qI_s]
      rw [if_neg (fun z => w (hsi.mpr z.1))] at hK
      exact hK
    · rw [am_qI_s]
      rw [if_neg (by omega)] at hK
      exact hK
    · rw [am_qI_s]
      rw [if_pos ⟨hsi.mp w, w2⟩] at hK
      exact hK
  refine ⟨3, hd, am_Met.of (by decide) rfl (Nat.le_of_ble_eq_true rfl) (ab_Bonds_isAbove_0 hY hYv (isBondK hp hn (by omega) ⟨fun z => absurd z (by decide), fun _ => ⟨⟨by omega, by omega⟩, ⟨by omega, by omega⟩, ⟨by omega, by omega⟩, fun c => at29 0 (Or.inl rfl) ⟨fun _ => c, fun _ => rfl⟩, fun c => at29 1 (Or.inr rfl) ⟨fun z => absurd z (by decide), fun z => by omega⟩⟩⟩))⟩
/-- what bind leaves -/
def bdB (h h1 : am_H) (b i : Nat) (p y t : Int) : Prop := h1 (b + 1) = (if h (b + 1) i < y ∧ y ≤ h (b + 2) i then h (b + 1) else up (h (b + 1)) i y) ∧ h1 (b + 2) = up (h (b + 2)) i (y + t) ∧ h1 b = up (h b) 2 (am_or (h b 2) (am_shl 1 p)) ∧ ∀ q, q ≠ b → q ≠ b + 1 → q ≠ b + 2 → h1 q = h q
theorem bindK {p n y t : Int} {K : am_H → Prop} (hY : am_at Y b am_L1) (hp : 0 ≤ p ∧ p < 8) (hn : 0 ≤ n ∧ n < 48) (hr : 0 ≤ y ∧ y ≤ 1000 ∧ 0 ≤ t ∧ t ≤ 1000) (hm : h (b + 1) (p * 48 + n).toNat ≤ y) (hd : 3 < d) (hK : ∀ h1, bdB h h1 b (p * 48 + n).toNat p y t → K h1) : am_kV am_Bonds_bind d Y [.inr (.inr b), .inl p, .inl n, .inl y, .inl t] h K := by
  have same : ∀ x : Int, h (b + 1) (p * 48 + n).toNat = x → up (h (b + 1)) (p * 48 + n).toNat x = h (b + 1) := by
    intro x e
    funext i
    unfold up
    split
    · rename_i w
      rw [w, e]
    · rfl
  refine ⟨3, hd, am_Met.of (by decide) rfl (Nat.le_of_ble_eq_true rfl) (ab_Bonds_bind_0 hY (isBondK hp hn (by omega) ⟨fun z => absurd z (by decide), fun _ => ⟨⟨by omega, by omega⟩, ⟨by omega, by omega⟩, ⟨by omega, by omega⟩, fun c => ⟨⟨by omega, by omega⟩, ⟨by omega, by omega⟩, fun h3 e3 => ⟨⟨by omega, by omega⟩, ⟨by omega, by omega⟩, fun h4 e4 h5 e5 => ?_⟩⟩, fun c => ⟨⟨by omega, by omega⟩, fun h6 e6 => ⟨⟨by omega, by omega⟩, ⟨by omega, by omega⟩, fun h7 e7 h8 e8 => ?_⟩⟩⟩⟩))⟩
  · rw [am_qV_s]
    refine hK h5 ⟨?_, ?_, ?_, fun q q0 q1 q2 => ?_⟩
    · rw [e5, am_u_n _ _ _ _ _ (by omega), e4, am_u_n _ _ _ _ _ (by omega), e3, am_u_up, same _ rfl]
      split
      · rfl
      · exact (same y (by omega)).symm
    · rw [e5, am_u_n _ _ _ _ _ (by omega), e4, am_u_up, e3, am_u_n _ _ _ _ _ (by omega)]
    · rw [e5, am_u_up, e4, am_u_n _ _ _ _ _ (by omega), e3, am_u_n _ _ _ _ _ (by omega)]
    · rw [e5, am_u_n _ _ _ _ q q0, e4, am_u_n _ _ _ _ q q2, e3, am_u_n _ _ _ _ q q1]
  · rw [am_qV_s]
    refine hK h8 ⟨?_, ?_, ?_, fun q q0 q1 q2 => ?_⟩
    · rw [if_neg (by omega), e8, am_u_n _ _ _ _ _ (by omega), e7, am_u_n _ _ _ _ _ (by omega), e6, am_u_up]
    · rw [e8, am_u_n _ _ _ _ _ (by omega), e7, am_u_up, e6, am_u_n _ _ _ _ _ (by omega)]
    · rw [e8, am_u_up, e7, am_u_n _ _ _ _ _ (by omega), e6, am_u_n _ _ _ _ _ (by omega)]
    · rw [e8, am_u_n _ _ _ _ q q0, e7, am_u_n _ _ _ _ q q2, e6, am_u_n _ _ _ _ q q1]
theorem dropK {p n : Int} {K : am_H → Prop} (hY : am_at Y b am_L1) (hp : 0 ≤ p ∧ p < 8) (hn : 0 ≤ n ∧ n < 48) (hd : 1 < d) (hK : ∀ h1, h1 = am_u h (b + 2) (p * 48 + n).toNat (-1) → K h1) : am_kV am_Bonds_drop d Y [.inr (.inr b), .inl p, .inl n] h K := by
  refine ⟨1, hd, am_Met.of (by decide) rfl (Nat.le_of_ble_eq_true rfl) (ab_Bonds_drop_0 hY (isBondK hp hn (by omega) ⟨fun z => absurd z (by decide), fun _ => ⟨⟨by omega, by omega⟩, ⟨by omega, by omega⟩, ⟨by omega, by omega⟩, fun h3 e3 => ?_⟩⟩))⟩
  rw [am_qV_s]
  exact hK h3 e3
theorem bondsBeginK {K : am_H → Prop} (hY : am_at Y b am_L1) (hd : 1 < d) (hK : ∀ h1, (∀ j, j < 384 → h1 (b + 1) j = -1 ∧ h1 (b + 2) j = -1) → h1 b 2 = 0 → (∀ q, q ≠ b → q ≠ b + 1 → q ≠ b + 2 → h1 q = h q) → K h1) : am_kV am_Bonds_begin d Y [.inr (.inr b)] h K := by
  refine ⟨1, hd, am_Met.of (by decide) rfl (Nat.le_of_ble_eq_true rfl) (ab_Bonds_begin_0 hY (am_kV.of (ac_fillI (d := 0) (hY 1 _ rfl) (by omega)) (by omega) (fun h1 _ f1 => am_kV.of (ac_fillI (d := 0) (hY 2 _ rfl) (by omega)) (by omega) (fun h2 _ f2 => ?_))))⟩
  intro h3 e3
  rw [am_qV_s]
  refine hK h3 (fun j hj => ⟨?_, ?_⟩) (by rw [e3, am_u_s]) (fun q q0 q1 q2 => ?_)
  · rw [e3, am_u_n _ _ _ _ _ (by omega), f2.1 _ (by omega)]
    exact f1.2 j hj
  · rw [e3, am_u_n _ _ _ _ _ (by omega)]
    exact f2.2 j hj
  · rw [e3, am_u_n _ _ _ _ q q0, f2.1 q q2, f1.1 q q1]
end
