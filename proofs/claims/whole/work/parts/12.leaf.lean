/-! contracts: the village's leaves -/
theorem am_up (P : Int → Prop) (N : Int) (he : ∀ i, N ≤ i → P i) (hs : ∀ i, i < N → P (i + 1) → P i) : ∀ i, P i := by
  have key : ∀ (n : Nat) (i : Int), (N - i).toNat ≤ n → P i := by
    intro n
    induction n with
    | zero => intro i h; exact he i (by omega)
    | succ n ih =>
      intro i h
      by_cases hi : N ≤ i
      · exact he i hi
      · exact hs i (by omega) (ih (i + 1) (by omega))
  exact fun i => key _ i (Nat.le_refl _)
/-- the least place of a row that has P; -1: none -/
def am_least (P : Nat → Prop) (N : Nat) (r : Int) : Prop := (r = -1 ∧ ∀ j, j < N → ¬ P j) ∨ (∃ n : Nat, r = n ∧ n < N ∧ P n ∧ ∀ j, j < n → ¬ P j)
/-- the village's sizes -/
def vo (h : am_H) (v : Nat) : Prop := 0 ≤ h v 1 ∧ h v 1 ≤ 6 ∧ 0 ≤ h v 2 ∧ h v 2 ≤ 8 ∧ 0 ≤ h v 3 ∧ h v 3 ≤ 48
def vp (h : am_H) (v : Nat) (p k : Int) : Int := if 0 ≤ p ∧ p < h v 2 ∧ 0 ≤ k ∧ k < h v 1 then h (v + 6) (p * 6 + k).toNat else 0
def vin (h : am_H) (v : Nat) (j : Nat) (p : Int) : Int := if 0 ≤ p ∧ p < h v j then 1 else 0
section
variable {d : Nat} {Y : am_Y} {h : am_H} {v : Nat}
theorem ac_hasHelp {k : Int} (hY : am_at Y v am_L9) : am_cI am_Village_hasHelp d Y [.inr (.inr v), .inl k] h (fun r h1 => h1 = h ∧ r = vin h v 1 k) := by
  refine am_Met.of (by decide) rfl (Nat.le_of_ble_eq_true rfl) (ab_Village_hasHelp_0 hY ?_)
  simp only [am_qI_s]
  unfold vin
  grind
theorem ac_hasPerson {k : Int} (hY : am_at Y v am_L9) : am_cI am_Village_hasPerson d Y [.inr (.inr v), .inl k] h (fun r h1 => h1 = h ∧ r = vin h v 2 k) := by
  refine am_Met.of (by decide) rfl (Nat.le_of_ble_eq_true rfl) (ab_Village_hasPerson_0 hY ?_)
  simp only [am_qI_s]
  unfold vin
  grind
theorem ac_hasNeed {k : Int} (hY : am_at Y v am_L9) : am_cI am_Village_hasNeed d Y [.inr (.inr v), .inl k] h (fun r h1 => h1 = h ∧ r = vin h v 3 k) := by
  refine am_Met.of (by decide) rfl (Nat.le_of_ble_eq_true rfl) (ab_Village_hasNeed_0 hY ?_)
  simp only [am_qI_s]
  unfold vin
  grind
theorem ac_painsOf {p k : Int} (hY : am_at Y v am_L9) (hv : vo h v) : am_cI am_Village_painsOf d Y [.inr (.inr v), .inl p, .inl k] h (fun r h1 => h1 = h ∧ r = vp h v p k) := by
  refine am_Met.of (by decide) rfl (Nat.le_of_ble_eq_true rfl) (ab_Village_painsOf_0 hY ?_)
  simp only [am_qI_s]
  unfold vo at hv
  unfold vp am_ri
  grind
theorem ac_can {p k : Int} (hY : am_at Y v am_L9) (hv : vo h v) : am_cI am_Village_can (d + 1) Y [.inr (.inr v), .inl p, .inl k] h (fun r h1 => h1 = h ∧ r = if 0 < vp h v p k then 1 else 0) := by
  refine am_Met.of (by decide) rfl (Nat.le_of_ble_eq_true rfl) (ab_Village_can_0 hY ?_)
  refine am_kI.of (ac_painsOf (d := d) hY hv) (by omega) ?_
  rintro x h1 - - ⟨rfl, rfl⟩
  simp only [am_qI_s]
  grind
/-- h can meet need n -/
def vcm (h : am_H) (v : Nat) (p n : Int) : Int := if 0 ≤ p ∧ p < h v 2 ∧ 0 ≤ n ∧ n < h v 3 ∧ p ≠ h (v + 9) n.toNat ∧ 0 < vp h v p (h (v + 10) n.toNat) then 1 else 0
theorem ac_canMeet {p n : Int} (hY : am_at Y v am_L9) (hv : vo h v) : am_cI am_Village_canMeet (d + 1) Y [.inr (.inr v), .inl p, .inl n] h (fun r h1 => h1 = h ∧ r = vcm h v p n) := by
  refine am_Met.of (by decide) rfl (Nat.le_of_ble_eq_true rfl) (ab_Village_canMeet_0 hY ?_)
  simp only [am_qI_s]
  have hc : ∀ K : Int → am_H → Prop, K (vp h v p (h (v + 10) n.toNat)) h → am_kI am_Village_painsOf (d + 1) Y [.inr (.inr v), .inl p, .inl (h (v + 10) n.toNat)] h K := fun K hK =>
    am_kI.of (ac_painsOf (d := d) hY hv) (by omega) (by rintro x h1 - - ⟨rfl, rfl⟩; exact hK)
  unfold vo at hv
  unfold vcm
  grind
def vfr (h : am_H) (v : Nat) (p q : Int) : Int := if 0 ≤ p ∧ p < h v 2 ∧ 0 ≤ q ∧ q < h v 2 then h (v + 7) (p * 8 + q).toNat else 0
def vsi (h : am_H) (v : Nat) (p q : Int) : Int := if 0 ≤ p ∧ p < h v 2 ∧ 0 ≤ q ∧ q < h v 2 then h (v + 8) (p * 8 + q).toNat else 0
theorem ac_friendship {p q : Int} (hY : am_at Y v am_L9) (hv : vo h v) : am_cI am_Village_friendship (d + 1) Y [.inr (.inr v), .inl p, .inl q] h (fun r h1 => h1 = h ∧ r = vfr h v p q) := by
  refine am_Met.of (by decide) rfl (Nat.le_of_ble_eq_true rfl) (ab_Village_friendship_0 hY ?_)
  simp only [am_qI_s]
  have hc : ∀ (q : Int) (K : Int → am_H → Prop), K (vin h v 2 q) h → am_kI am_Village_hasPerson (d + 1) Y [.inr (.inr v), .inl q] h K := fun q K hK =>
    am_kI.of (ac_hasPerson (d := d) hY) (by omega) (by rintro x h1 - - ⟨rfl, rfl⟩; exact hK)
  unfold vo at hv
  refine hc p _ ⟨fun hp => ?_, fun hp => hc q _ ?_⟩
  · unfold vin at hp; unfold vfr; grind
  · unfold vin at hp; unfold vfr vin am_ri; grind
theorem ac_sight {p q : Int} (hY : am_at Y v am_L9) (hv : vo h v) : am_cI am_Village_sight (d + 1) Y [.inr (.inr v), .inl p, .inl q] h (fun r h1 => h1 = h ∧ r = vsi h v p q) := by
  refine am_Met.of (by decide) rfl (Nat.le_of_ble_eq_true rfl) (ab_Village_sight_0 hY ?_)
  simp only [am_qI_s]
  have hc : ∀ (q : Int) (K : Int → am_H → Prop), K (vin h v 2 q) h → am_kI am_Village_hasPerson (d + 1) Y [.inr (.inr v), .inl q] h K := fun q K hK =>
    am_kI.of (ac_hasPerson (d := d) hY) (by omega) (by rintro x h1 - - ⟨rfl, rfl⟩; exact hK)
  unfold vo at hv
  refine hc p _ ⟨fun hp => ?_, fun hp => hc q _ ?_⟩
  · unfold vin at hp; unfold vsi; grind
  · unfold vin at hp; unfold vsi vin am_ri; grind
theorem ac_needOf {p k : Int} (hY : am_at Y v am_L9) (hv : vo h v) : am_cI am_Village_needOf d Y [.inr (.inr v), .inl p, .inl k] h (fun r h1 => h1 = h ∧ am_least (fun j => h (v + 9) j = p ∧ h (v + 10) j = k) (h v 3).toNat r) := by
  refine am_Met.of (by decide) rfl (Nat.le_of_ble_eq_true rfl) (ab_Village_needOf_0 hY ?_)
  unfold vo at hv
  refine am_up (fun i => 0 ≤ i → (∀ j : Nat, (j : Int) < i → ¬ (h (v + 9) j = p ∧ h (v + 10) j = k)) → am_wp am_Village_needOf d Y 2 [some (.inr (.inr v)), some (.inl p), some (.inl k), some (.inl i)] [] h (am_qI (fun r h1 => h1 = h ∧ am_least (fun j => h (v + 9) j = p ∧ h (v + 10) j = k) (h v 3).toNat r))) (h v 3) ?_ ?_ 0 (by omega) (fun j hj => by omega)
  · intro i hi h0 hj
    refine ab_Village_needOf_2 hY ?_
    simp only [am_qI_s]
    refine ⟨fun _ => ⟨trivial, Or.inl ⟨rfl, fun j hlt => hj j (by omega)⟩⟩, fun hlt => by omega⟩
  · intro i hi ih h0 hj
    refine ab_Village_needOf_2 hY ?_
    simp only [am_qI_s]
    have hne : ¬ (h (v + 9) i.toNat = p ∧ h (v + 10) i.toNat = k) → ∀ j : Nat, (j : Int) < i + 1 → ¬ (h (v + 9) j = p ∧ h (v + 10) j = k) := fun hn j hjl => by
      by_cases e : (j : Int) = i
      · subst e; simpa using hn
      · exact hj j (by omega)
    refine ⟨fun _ => by omega, fun _ => ⟨⟨h0, by omega⟩, fun c1 => ⟨⟨by omega, by omega⟩, ih (by omega) (hne (fun z => c1 z.1))⟩, fun c1 => ⟨⟨h0, by omega⟩, fun c2 => ⟨⟨by omega, by omega⟩, ih (by omega) (hne (fun z => c2 z.2))⟩, fun c2 => ⟨trivial, Or.inr ⟨i.toNat, by omega, by omega, ⟨c1, c2⟩, fun j hjl => hj j (by omega)⟩⟩⟩⟩⟩
end
