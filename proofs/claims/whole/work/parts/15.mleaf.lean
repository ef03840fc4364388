/-! contracts: the reference's leaves (its row 'now' is object m + 2) -/
section
variable {d : Nat} {Y : am_Y} {h : am_H} {m : Nat}
theorem ac_m_isIn {x a b : Int} : am_cI am_Md_isIn d Y [.inl x, .inl a, .inl b] h (fun r h1 => h1 = h ∧ r = if a ≤ x ∧ x ≤ b then 1 else 0) := by
  refine am_Met.of (by decide) rfl (Nat.le_of_ble_eq_true rfl) (ab_Md_isIn_0 ?_)
  simp only [am_qI_s]
  grind
theorem ac_m_has {x k : Int} : am_cI am_Md_has d Y [.inl x, .inl k] h (fun r h1 => h1 = h ∧ r = if am_and (am_shr x k) 1 = 1 then 1 else 0) := by
  refine am_Met.of (by decide) rfl (Nat.le_of_ble_eq_true rfl) (ab_Md_has_0 ?_)
  simp only [am_qI_s]
  grind
theorem ac_m_helps (hY : am_at Y m am_L12) : am_cI am_Md_helps d Y [.inr (.inr m)] h (fun r h1 => h1 = h ∧ r = h (m + 2) 0) := by
  refine am_Met.of (by decide) rfl (Nat.le_of_ble_eq_true rfl) (ab_Md_helps_0 hY ?_)
  simp only [am_qI_s]
  grind
theorem ac_m_persons (hY : am_at Y m am_L12) : am_cI am_Md_persons d Y [.inr (.inr m)] h (fun r h1 => h1 = h ∧ r = h (m + 2) 1) := by
  refine am_Met.of (by decide) rfl (Nat.le_of_ble_eq_true rfl) (ab_Md_persons_0 hY ?_)
  simp only [am_qI_s]
  grind
theorem ac_m_isHelp {k : Int} (hY : am_at Y m am_L12) : am_cI am_Md_isHelp (d + 1) Y [.inr (.inr m), .inl k] h (fun r h1 => h1 = h ∧ r = if 0 ≤ k ∧ k < h (m + 2) 0 then 1 else 0) := by
  refine am_Met.of (by decide) rfl (Nat.le_of_ble_eq_true rfl) (ab_Md_isHelp_0 hY ?_)
  simp only [am_qI_s]
  refine ⟨fun _ => by grind, fun _ => am_kI.of (ac_m_helps (d := d) hY) (by omega) ?_⟩
  rintro x h1 - - ⟨rfl, rfl⟩
  grind
theorem ac_m_isPerson {k : Int} (hY : am_at Y m am_L12) : am_cI am_Md_isPerson (d + 1) Y [.inr (.inr m), .inl k] h (fun r h1 => h1 = h ∧ r = if 0 ≤ k ∧ k < h (m + 2) 1 then 1 else 0) := by
  refine am_Met.of (by decide) rfl (Nat.le_of_ble_eq_true rfl) (ab_Md_isPerson_0 hY ?_)
  simp only [am_qI_s]
  refine ⟨fun _ => by grind, fun _ => am_kI.of (ac_m_persons (d := d) hY) (by omega) ?_⟩
  rintro x h1 - - ⟨rfl, rfl⟩
  grind
theorem ac_m_isNeed {k : Int} (hY : am_at Y m am_L12) : am_cI am_Md_isNeed d Y [.inr (.inr m), .inl k] h (fun r h1 => h1 = h ∧ r = if 0 ≤ k ∧ k < h (m + 2) 2 then 1 else 0) := by
  refine am_Met.of (by decide) rfl (Nat.le_of_ble_eq_true rfl) (ab_Md_isNeed_0 hY ?_)
  simp only [am_qI_s]
  grind
theorem ac_m_worth {k : Int} (hY : am_at Y m am_L12) (hk : 0 ≤ k ∧ k < 6) : am_cI am_Md_worth d Y [.inr (.inr m), .inl k] h (fun r h1 => h1 = h ∧ r = h (m + 2) (10 + 2 * k).toNat) := by
  refine am_Met.of (by decide) rfl (Nat.le_of_ble_eq_true rfl) (ab_Md_worth_0 hY ?_)
  simp only [am_qI_s]
  exact ⟨⟨by omega, by omega⟩, ⟨by omega, by omega⟩, by omega, trivial, by trivial⟩
theorem ac_m_hide {k : Int} (hY : am_at Y m am_L12) (hk : 0 ≤ k ∧ k < 6) : am_cI am_Md_hide d Y [.inr (.inr m), .inl k] h (fun r h1 => h1 = h ∧ r = h (m + 2) (11 + 2 * k).toNat) := by
  refine am_Met.of (by decide) rfl (Nat.le_of_ble_eq_true rfl) (ab_Md_hide_0 hY ?_)
  simp only [am_qI_s]
  exact ⟨⟨by omega, by omega⟩, ⟨by omega, by omega⟩, ⟨by omega, by omega⟩, by omega, trivial, by congr 1; omega⟩
theorem ac_m_pains {p k : Int} (hY : am_at Y m am_L12) (hp : 0 ≤ p ∧ p < 8) (hk : 0 ≤ k ∧ k < 6) : am_cI am_Md_pains d Y [.inr (.inr m), .inl p, .inl k] h (fun r h1 => h1 = h ∧ r = h (m + 2) (35 + 6 * p + k).toNat) := by
  refine am_Met.of (by decide) rfl (Nat.le_of_ble_eq_true rfl) (ab_Md_pains_0 hY ?_)
  simp only [am_qI_s]
  exact ⟨⟨by omega, by omega⟩, ⟨by omega, by omega⟩, ⟨by omega, by omega⟩, by omega, trivial, by trivial⟩
theorem ac_m_friendship {p q : Int} (hY : am_at Y m am_L12) (hp : 0 ≤ p ∧ p < 8) (hk : 0 ≤ q ∧ q < 8) : am_cI am_Md_friendship d Y [.inr (.inr m), .inl p, .inl q] h (fun r h1 => h1 = h ∧ r = h (m + 2) (95 + 8 * p + q).toNat) := by
  refine am_Met.of (by decide) rfl (Nat.le_of_ble_eq_true rfl) (ab_Md_friendship_0 hY ?_)
  simp only [am_qI_s]
  exact ⟨⟨by omega, by omega⟩, ⟨by omega, by omega⟩, ⟨by omega, by omega⟩, by omega, trivial, by trivial⟩
theorem ac_m_sees {p q : Int} (hY : am_at Y m am_L12) (hp : 0 ≤ p ∧ p < 8) (hk : 0 ≤ q ∧ q < 8) : am_cI am_Md_sees d Y [.inr (.inr m), .inl p, .inl q] h (fun r h1 => h1 = h ∧ r = h (m + 2) (160 + 8 * p + q).toNat) := by
  refine am_Met.of (by decide) rfl (Nat.le_of_ble_eq_true rfl) (ab_Md_sees_0 hY ?_)
  simp only [am_qI_s]
  exact ⟨⟨by omega, by omega⟩, ⟨by omega, by omega⟩, ⟨by omega, by omega⟩, by omega, trivial, by trivial⟩
theorem ac_m_needy {n : Int} (hY : am_at Y m am_L12) (hn : 0 ≤ n ∧ n < 48) : am_cI am_Md_needy d Y [.inr (.inr m), .inl n] h (fun r h1 => h1 = h ∧ r = h (m + 2) (225 + 2 * n).toNat) := by
  refine am_Met.of (by decide) rfl (Nat.le_of_ble_eq_true rfl) (ab_Md_needy_0 hY ?_)
  simp only [am_qI_s]
  exact ⟨⟨by omega, by omega⟩, ⟨by omega, by omega⟩, by omega, trivial, by trivial⟩
theorem ac_m_needed {n : Int} (hY : am_at Y m am_L12) (hn : 0 ≤ n ∧ n < 48) : am_cI am_Md_needed d Y [.inr (.inr m), .inl n] h (fun r h1 => h1 = h ∧ r = h (m + 2) (226 + 2 * n).toNat) := by
  refine am_Met.of (by decide) rfl (Nat.le_of_ble_eq_true rfl) (ab_Md_needed_0 hY ?_)
  simp only [am_qI_s]
  exact ⟨⟨by omega, by omega⟩, ⟨by omega, by omega⟩, ⟨by omega, by omega⟩, by omega, trivial, by congr 1; omega⟩
theorem ac_m_foundOf {p : Int} (hY : am_at Y m am_L12) (hp : 0 ≤ p ∧ p < 8) : am_cI am_Md_foundOf (d + 1) Y [.inr (.inr m), .inl p] h (fun r h1 => h1 = h ∧ r = fPa (fun q => h (m + 2) (160 + 8 * (q : Int) + p).toNat) p) := by
  refine am_Met.of (by decide) rfl (Nat.le_of_ble_eq_true rfl) (ab_Md_foundOf_0 hY ?_)
  refine am_up (fun i => ∀ z : Int, 0 ≤ i → i ≤ 8 → z = fPr (fun q => h (m + 2) (160 + 8 * (q : Int) + p).toNat) p i.toNat → aw_Md_foundOf_4 (d + 1) Y m p z i h (am_qI _)) 8 ?_ ?_ 0 1 (by omega) (by omega) rfl
  · intro i hi z g0 g1 g2
    refine ab_Md_foundOf_4 hY ?_
    simp only [am_qI_s]
    have e : i = 8 := by omega
    subst e
    refine ⟨fun _ => ⟨trivial, by rw [g2]; rfl⟩, fun _ => by omega⟩
  · intro i hi ih z g0 g1 g2
    refine ab_Md_foundOf_4 hY ?_
    have en : fPr (fun q => h (m + 2) (160 + 8 * (q : Int) + p).toNat) p (i + 1).toNat = if i = p then z else am_w (z * am_w (10 - h (m + 2) (160 + 8 * i + p).toNat)) := by
      rw [show (i + 1).toNat = i.toNat + 1 by omega]
      unfold fPr
      rw [Int.toNat_of_nonneg g0, ← g2]
    refine ⟨fun _ => by omega, fun _ => ⟨fun c => ⟨⟨by omega, by omega⟩, ih _ (by omega) (by omega) ?_⟩, fun c => ?_⟩⟩
    · rw [en, if_pos c]
    · refine am_kI.of (ac_m_sees (d := d) hY (by omega) hp) (by omega) ?_
      rintro x h1 - - ⟨rfl, rfl⟩
      refine ⟨⟨by omega, by omega⟩, ih _ (by omega) (by omega) ?_⟩
      rw [en, if_neg c]
end
