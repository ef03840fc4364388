/-! contracts: the reference begins a text -/
section
variable {d : Nat} {Y : am_Y} {h : am_H} {m : Nat} {s : Nat → Int} {n lim : Nat} {r : List TK}
/-- all that is told, as it lies there once begun -/
def lai (h : am_H) (m : Nat) : Nat → Int := if h m 22 = 0 then up (up (up (h (m + 2)) 3 3) 4 50) 5 10 else h (m + 2)
def laQ (h h1 : am_H) (m : Nat) : Prop := h1 (m + 2) = lai h m ∧ h1 m 22 = 1 ∧ (∀ q, q ≠ m → q ≠ m + 2 → h1 q = h q) ∧ ∀ j, j ≠ 22 → h1 m j = h m j
theorem ac_m_lay (hY : am_at Y m am_L12) (hb : h m 22 = 0 ∨ h m 22 = 1) : am_cV am_Md_lay d Y [.inr (.inr m)] h (fun h1 => laQ h h1 m) := by
  refine am_Met.of (by decide) rfl (Nat.le_of_ble_eq_true rfl) (ab_Md_lay_0 hY ⟨fun c h1 x1 h2 x2 h3 x3 h4 x4 => ?_, fun c => ?_⟩)
  · rw [am_qV_s]
    refine ⟨?_, ?_, fun q hq hq2 => ?_, fun j hj => ?_⟩
    · unfold lai
      rw [if_pos c, x4, am_u_up, x3, am_u_up, x2, am_u_up, x1, am_u_n _ _ _ _ _ (by omega)]
    · rw [x4, am_u_n _ _ _ _ _ (by omega), x3, am_u_n _ _ _ _ _ (by omega), x2, am_u_n _ _ _ _ _ (by omega), x1, am_u_s]
    · rw [x4, am_u_n _ _ _ _ _ hq2, x3, am_u_n _ _ _ _ _ hq2, x2, am_u_n _ _ _ _ _ hq2, x1, am_u_n _ _ _ _ _ hq]
    · rw [x4, am_u_n _ _ _ _ _ (by omega), x3, am_u_n _ _ _ _ _ (by omega), x2, am_u_n _ _ _ _ _ (by omega), x1, am_u_j hj]
  · rw [am_qV_s]
    refine ⟨?_, by omega, fun q _ _ => rfl, fun j _ => rfl⟩
    unfold lai
    rw [if_neg c]
theorem ac_m_take (hY : am_at Y m am_L12) : am_cI am_Md_take d Y [.inr (.inr m)] h (fun x h1 => x = h m 2 ∧ h1 = am_u h m 2 0) := by
  refine am_Met.of (by decide) rfl (Nat.le_of_ble_eq_true rfl) (ab_Md_take_0 hY fun h1 x1 => ?_)
  rw [am_qI_s]
  exact ⟨rfl, x1⟩
/-- begun -/
def beQ (h h1 : am_H) (m : Nat) (s : Nat → Int) (n lim : Nat) : Prop := h1 m 0 = 0 ∧ h1 m 2 = 0 ∧ h1 m 10 = 0 ∧ MC h1 m s n lim ∧ M0 h1 m s n lim (lxs s n lim 0) ∧ h1 (m + 2) = lai h m ∧ h1 m 22 = 1 ∧ (∀ q, q ≠ m → q ≠ m + 2 → h1 q = h q) ∧ ∀ j, 12 < j → j ≠ 22 → h1 m j = h m j
theorem ac_m_begin (hY : am_at Y m am_L12) (hb : h m 22 = 0 ∨ h m 22 = 1) (h2 : h m 2 = (n : Int)) (hn : n ≤ 940) (hs : su s (h (m + 1)) n) : am_cV am_Md_begin (d + 2) Y [.inr (.inr m), .inl (lim : Int)] h (fun h1 => beQ h h1 m s n lim) := by
  refine am_Met.of (by decide) rfl (Nat.le_of_ble_eq_true rfl) (ab_Md_begin_0 hY fun h1 x1 => ?_)
  have b1 : h1 m 22 = 0 ∨ h1 m 22 = 1 := by rw [x1, am_u_j (by omega)]; exact hb
  refine am_kV.of (ac_m_lay (d := 0) hY b1) (by omega) ?_
  rintro h2' - ⟨l1, l2, l3, l4⟩
  refine am_kI.of (ac_m_take (d := 0) hY) (by omega) ?_
  rintro x h3 - - ⟨rfl, x3⟩ h5 x5 h6 x6 h7 x7 h8 x8
  have e2 : h2' m 2 = (n : Int) := by rw [l4 2 (by omega), x1, am_u_j (by omega), h2]
  have q8 : ∀ q, q ≠ m → h8 q = h2' q := fun q hq => by
    rw [x8, am_u_n _ _ _ _ _ hq, x7, am_u_n _ _ _ _ _ hq, x6, am_u_n _ _ _ _ _ hq, x5, am_u_n _ _ _ _ _ hq, x3, am_u_n _ _ _ _ _ hq]
  have j8 : ∀ j, j ≠ 2 → j ≠ 3 → j ≠ 4 → j ≠ 5 → j ≠ 10 → h8 m j = h2' m j := fun j a b c e f => by
    rw [x8, am_u_j e, x7, am_u_j f, x6, am_u_j c, x5, am_u_j b, x3, am_u_j a]
  have s2 : h8 m 2 = 0 := by rw [x8, am_u_j (by omega), x7, am_u_j (by omega), x6, am_u_j (by omega), x5, am_u_j (by omega), x3, am_u_s]
  have s3 : h8 m 3 = (n : Int) := by rw [x8, am_u_j (by omega), x7, am_u_j (by omega), x6, am_u_j (by omega), x5, am_u_s, e2]
  have s4 : h8 m 4 = (lim : Int) := by rw [x8, am_u_j (by omega), x7, am_u_j (by omega), x6, am_u_s]
  have s5 : h8 m 5 = ((0 : Nat) : Int) := by rw [x8, am_u_s]; rfl
  have s10 : h8 m 10 = 0 := by rw [x8, am_u_j (by omega), x7, am_u_s]
  have t1 : h8 (m + 1) = h (m + 1) := by rw [q8 _ (by omega), l3 _ (by omega) (by omega), x1, am_u_n _ _ _ _ _ (by omega)]
  have hsu : su s (h8 (m + 1)) n := by rw [t1]; exact hs
  refine am_kV.of (ac_m_go (d := 0) hY s3 s4 s5 (by omega) hn hsu) (by omega) ?_
  rintro h9 - ⟨r9, g9⟩
  rw [am_qV_s]
  have G : ∀ j, j < 5 ∨ j = 10 ∨ 12 < j → h9 m j = h8 m j := fun j hj => g9.2 j (by omega) (by omega) (by omega) (by omega) (by omega) (by omega)
  refine ⟨?_, (G 2 (by omega)).trans s2, (G 10 (by omega)).trans s10, ⟨(G 3 (by omega)).trans s3, (G 4 (by omega)).trans s4, hn, ?_⟩, ⟨r9, (G 10 (by omega)).trans s10⟩, ?_, ?_, fun q hq hq2 => ?_, fun j hj hj2 => ?_⟩
  · rw [G 0 (by omega), j8 0 (by omega) (by omega) (by omega) (by omega) (by omega), l4 0 (by omega), x1, am_u_s]
  · rw [g9.1 _ (by omega)]; exact hsu
  · rw [g9.1 _ (by omega), q8 _ (by omega), l1]
    unfold lai
    rw [x1, am_u_j (by omega), am_u_n _ _ _ _ _ (by omega)]
  · rw [G 22 (by omega), j8 22 (by omega) (by omega) (by omega) (by omega) (by omega), l2]
  · rw [g9.1 _ hq, q8 _ hq, l3 _ hq hq2, x1, am_u_n _ _ _ _ _ hq]
  · rw [G j (by omega), j8 j (by omega) (by omega) (by omega) (by omega) (by omega), l4 j hj2, x1, am_u_j (by omega)]
end
