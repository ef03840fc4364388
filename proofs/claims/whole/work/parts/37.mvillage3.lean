/-! contracts: the reference's village, whole -/
section
variable {d : Nat} {Y : am_Y} {h : am_H} {m : Nat} {c : Int} {Q : Option am_V → am_H → Prop} {s : Nat → Int} {n : Nat}
theorem loop115 {h0 : am_H} (hY : am_at Y m am_L12) (hend : ∀ h1, h1 (m + 6) = cpy (h0 (m + 6)) (h0 (m + 7)) 14 → (∀ q, q ≠ m + 6 → h1 q = h0 q) → am_wp am_Md_village d Y 141 [some (.inr (.inr m)), some (.inl c), some (.inl 0)] [] h1 Q) :
    ∀ i : Int, ∀ h, 0 ≤ i → i ≤ 14 → h (m + 6) = cpy (h0 (m + 6)) (h0 (m + 7)) i.toNat → (∀ q, q ≠ m + 6 → h q = h0 q) → am_wp am_Md_village d Y 115 [some (.inr (.inr m)), some (.inl c), some (.inl i)] [] h Q := by
  refine am_up _ 14 ?_ ?_
  · intro i hi h i0 i1 hR F
    have e : i = 14 := by omega
    subst e
    exact ab_Md_village_115 hY ⟨fun _ => hend h hR F, fun z => by omega⟩
  · intro i hi ih h i0 i1 hR F
    refine ab_Md_village_115 hY ⟨fun z => by omega, fun _ => ⟨⟨by omega, by omega⟩, ⟨by omega, by omega⟩, fun h5 x5 => ⟨⟨by omega, by omega⟩, ih h5 (by omega) (by omega) ?_ fun q hq => by rw [x5, am_u_n _ _ _ _ _ hq, F q hq]⟩⟩⟩
    rw [x5, am_u_up, hR, F (m + 7) (by omega), show (i + 1).toNat = i.toNat + 1 by omega]
    exact cpy_s _ _ _
theorem loop141 {h0 : am_H} (hY : am_at Y m am_L12) (hend : ∀ h1, h1 (m + 2) = up (up (zer (h0 (m + 2)) 325 16) 341 0) 590 0 → (∀ q, q ≠ m + 2 → h1 q = h0 q) → Q (some (.inl c)) h1) :
    ∀ i : Int, ∀ h, 0 ≤ i → i ≤ 16 → h (m + 2) = zer (h0 (m + 2)) 325 i.toNat → (∀ q, q ≠ m + 2 → h q = h0 q) → am_wp am_Md_village d Y 141 [some (.inr (.inr m)), some (.inl c), some (.inl i)] [] h Q := by
  refine am_up _ 16 ?_ ?_
  · intro i hi h i0 i1 hR F
    have e : i = 16 := by omega
    subst e
    refine ab_Md_village_141 hY ⟨fun _ h1 x1 h2 x2 => hend h2 ?_ fun q hq => by rw [x2, am_u_n _ _ _ _ _ hq, x1, am_u_n _ _ _ _ _ hq, F q hq], fun z => by omega⟩
    rw [x2, am_u_up, x1, am_u_up, hR]
    rfl
  · intro i hi ih h i0 i1 hR F
    refine ab_Md_village_141 hY ⟨fun z => by omega, fun _ => ⟨⟨by omega, by omega⟩, ⟨by omega, by omega⟩, fun h5 x5 => ⟨⟨by omega, by omega⟩, ih h5 (by omega) (by omega) ?_ fun q hq => by rw [x5, am_u_n _ _ _ _ _ hq, F q hq]⟩⟩⟩
    rw [x5, am_u_up, hR, show (325 + i).toNat = 325 + i.toNat by omega, show (i + 1).toNat = i.toNat + 1 by omega]
    exact zer_s _ _ _
/-- behind the lines -/
theorem after88 {h0 : am_H} {S : VS} (hY : am_at Y m am_L12) (h3 : h0 (m + 3) = S.1) (h7 : h0 (m + 7) = S.2.1)
    (hend : ∀ h1, h1 (m + 2) = pNow (h0 (m + 2)) S.1 → h1 (m + 6) = cpy (h0 (m + 6)) S.2.1 14 → (∀ q, q ≠ m + 2 → q ≠ m + 6 → h1 q = h0 q) → Q (some (.inl c)) h1) : aw_Md_village_88 d Y m c 0 h0 Q := by
  refine loop88 (h0 := h0) hY ?_ 0 h0 (by omega) (by omega) (cpy_0 _ _).symm (fun _ _ => rfl)
  intro h1 r1 F1
  refine loop115 (h0 := h1) hY ?_ 0 h1 (by omega) (by omega) (cpy_0 _ _).symm (fun _ _ => rfl)
  intro h2 r2 F2
  refine loop141 (h0 := h2) hY ?_ 0 h2 (by omega) (by omega) (zer_0 _ _).symm (fun _ _ => rfl)
  intro h4 r4 F4
  refine hend h4 ?_ ?_ fun q q2 q6 => by rw [F4 q q2, F2 q q6, F1 q q2]
  · rw [r4, F2 _ (by omega), r1, h3]
    rfl
  · rw [F4 _ (by omega), r2, F1 _ (by omega), F1 _ (by omega), h7]
end
