/-! contracts: the reference's village, whole -/
section
variable {d : Nat} {Y : am_Y} {h : am_H} {m : Nat} {s : Nat → Int} {n : Nat}
def vE (h : am_H) (m : Nat) (s : Nat → Int) (n : Nat) : PE (Int × VS) := pLines 1000 0 0 (pInit (h (m + 3)), h (m + 7), lxs s n 900 0)
def vlO (h h1 : am_H) (m : Nat) (x : Int) (e : PE (Int × VS)) : Prop := match e with
  | .inl q => x = -1 - q.2 ∧ h1 m 10 = q.1 ∧ h1 (m + 2) = lai h m ∧ h1 (m + 6) = h (m + 6)
  | .inr B => x = B.1 ∧ h1 m 10 = 0 ∧ h1 (m + 2) = pNow (lai h m) B.2.1 ∧ h1 (m + 6) = cpy (h (m + 6)) B.2.2.1 14 ∧ wV B.2.1
def vlF (h h1 : am_H) (m : Nat) : Prop := h1 m 0 = 0 ∧ h1 m 2 = 0 ∧ h1 m 22 = 1 ∧ (∀ q, q ≠ m → q ≠ m + 2 → q ≠ m + 3 → q ≠ m + 6 → q ≠ m + 7 → h1 q = h q) ∧ ∀ j, 13 < j → j ≠ 22 → j ≠ 23 → h1 m j = h m j
theorem ac_m_village (hY : am_at Y m am_L12) (hb : h m 22 = 0 ∨ h m 22 = 1) (h2 : h m 2 = (n : Int)) (hn : n ≤ 940) (hs : su s (h (m + 1)) n) : am_cI am_Md_village (d + 7) Y [.inr (.inr m)] h (fun x h1 => vlF h h1 m ∧ vlO h h1 m x (vE h m s n)) := by
  refine am_Met.of (by decide) rfl (Nat.le_of_ble_eq_true rfl) (ab_Md_village_0 hY (am_kV.of (ac_m_begin (d := 0) (lim := 900) hY hb h2 hn hs) (by omega) ?_))
  rintro h1 - ⟨b0, b2, b10, bc, br, bn, b22, bq, bj⟩
  refine loop9 (h0 := h1) hY ?_ 0 h1 (by omega) (by omega) (zer_0 _ _).symm (fun _ _ => rfl)
  intro h3 r3 g3 q3 j3
  have f : mFr h1 h3 m := ⟨fun q a b _ => q3 q a b, fun j hj => j3 j (by omega)⟩
  have m0 : M0 h3 m s n 900 (lxs s n 900 0) := br.but fun j _ _ _ _ => j3 j (by omega)
  have e3 : h1 (m + 3) = h (m + 3) := bq _ (by omega) (by omega)
  have e7 : h3 (m + 7) = h (m + 7) := (q3 _ (by omega) (by omega)).trans (bq _ (by omega) (by omega))
  have e2 : h3 (m + 2) = lai h m := (q3 _ (by omega) (by omega)).trans bn
  have e6 : h3 (m + 6) = h (m + 6) := (q3 _ (by omega) (by omega)).trans (bq _ (by omega) (by omega))
  have len : (lxs s n 900 0).length ≤ 1000 := by
    have := lxS_len s n 900 (min n 900 - 0) 0
    unfold lxs
    omega
  have fr : ∀ h9, mFr h3 h9 m → vlF h h9 m := fun h9 F => ⟨by rw [F.2 0 (by omega), j3 0 (by omega), b0], by rw [F.2 2 (by omega), j3 2 (by omega), b2], by rw [F.2 22 (by omega), j3 22 (by omega), b22], fun q q0 q2 q3' q6 q7 => by rw [F.1 q q0 q3' q7, q3 q q0 q3', bq q q0 q2], fun j a b c => by rw [F.2 j (by omega), j3 j c, bj j (by omega) b]⟩
  refine loop59 (h0 := h3) (E := vE h m s n) (d := d + 1) hY (bc.fr f) ?_ ?_ 1000 h3 0 0 (pInit (h (m + 3)), h (m + 7), lxs s n 900 0) len (by omega) (by omega) (by omega) ⟨by rw [r3, e3], e7, m0⟩ mFn.refl.r g3 (pInit_v _) rfl
  · intro h9 q hE F o10 o11
    rw [am_qI_s, hE]
    exact ⟨fr h9 F, rfl, o10, (F.1 _ (by omega) (by omega) (by omega)).trans e2, (F.1 _ (by omega) (by omega) (by omega)).trans e6⟩
  · intro h9 c S hE F hS V
    refine after88 hY hS.1 hS.2.1 ?_
    intro h8 t2 t6 F8
    rw [am_qI_s, hE]
    have g2 : h9 (m + 2) = lai h m := (F.1 _ (by omega) (by omega) (by omega)).trans e2
    have g6 : h9 (m + 6) = h (m + 6) := (F.1 _ (by omega) (by omega) (by omega)).trans e6
    have m8 : h8 m = h9 m := F8 m (by omega) (by omega)
    have v := fr h9 F
    refine ⟨⟨by rw [m8]; exact v.1, by rw [m8]; exact v.2.1, by rw [m8]; exact v.2.2.1, fun q q0 q2 q3 q6 q7 => by rw [F8 q q2 q6, v.2.2.2.1 q q0 q2 q3 q6 q7], fun j a b c => by rw [m8]; exact v.2.2.2.2 j a b c⟩, rfl, ?_, ?_, ?_, V⟩
    · rw [m8]; exact hS.2.2.2
    · rw [t2, g2]
    · rw [t6, g6]
end
