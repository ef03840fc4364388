/-! a world that grows: what constructors do -/
def an_ap {α : Type} (n : Nat) (a b : Nat → α) : Nat → α := fun o => if o < n then a o else b (o - n)
theorem an_ap_lt {α : Type} {n o : Nat} {a b : Nat → α} (h : o < n) : an_ap n a b o = a o := if_pos h
theorem an_ap_ge {α : Type} {n o : Nat} {a b : Nat → α} (h : n ≤ o) : an_ap n a b o = b (o - n) := if_neg (by omega)
theorem an_ap_r {α : Type} {n i : Nat} {a b : Nat → α} : an_ap n a b (n + i) = b i := by rw [an_ap_ge (by omega), Nat.add_sub_cancel_left]
/-- no reference out of it -/
def an_clo (Y : am_Y) : Bool := (List.range Y.length).all fun o => if (Y.getD o (0, 0)).1 < 13 then (am_fk (Y.getD o (0, 0)).1).all (fun f => Nat.blt f 3 || Nat.blt (o + (f - 3)) Y.length) else !((Y.getD o (0, 0)).1 == 17)
theorem an_clo_at {Y : am_Y} (h : an_clo Y = true) {o : Nat} {y : Nat × Nat} (hy : Y[o]? = some y) : (y.1 < 13 → ∀ f ∈ am_fk y.1, f < 3 ∨ o + (f - 3) < Y.length) ∧ y.1 ≠ 17 := by
  obtain ⟨hl, e⟩ := List.getElem?_eq_some_iff.mp hy
  have h1 := List.all_eq_true.mp h o (List.mem_range.mpr hl)
  have e1 : Y.getD o (0, 0) = y := by rw [List.getD_eq_getElem?_getD, hy]; rfl
  rw [e1] at h1
  by_cases k : y.1 < 13
  · rw [if_pos k] at h1
    refine ⟨fun _ f hf => ?_, by omega⟩
    have h2 := List.all_eq_true.mp h1 f hf
    simp only [Bool.or_eq_true, Nat.blt_eq] at h2
    exact h2
  · rw [if_neg k] at h1
    refine ⟨fun z => absurd z k, fun z => ?_⟩
    rw [z] at h1
    revert h1
    decide
theorem an_fs_c {ad ad' : Nat → Nat} {o o' : Nat} {g : Nat → Int} {l : List Nat} (h : ∀ f ∈ l, f < 3 ∨ ad' (o' + (f - 3)) = ad (o + (f - 3))) : am_fs ad' o' g l = am_fs ad o g l := by
  unfold am_fs
  refine List.map_congr_left fun j hj => ?_
  have hl : j < l.length := List.mem_range.mp hj
  have hm : l.getD j 0 ∈ l := by
    rw [List.getD_eq_getElem?_getD, List.getElem?_eq_getElem hl]
    exact List.getElem_mem hl
  unfold am_fv
  rcases h _ hm with z | z
  · have z3 : l.getD j 0 = 0 ∨ l.getD j 0 = 1 ∨ l.getD j 0 = 2 := by omega
    rcases z3 with q | q | q <;> rw [q] <;> rfl
  · rw [z]
theorem an_e_c {ad ad' : Nat → Nat} {ka : Nat → ClassId} {h h' : am_H} {o o' : Nat} {y : Nat × Nat} (h1 : h' o' = h o) (h2 : y.1 < 13 → ∀ f ∈ am_fk y.1, f < 3 ∨ ad' (o' + (f - 3)) = ad (o + (f - 3))) (h3 : y.1 = 17 → ∀ j, ad' (o' + 1 + 24 * j) = ad (o + 1 + 24 * j)) : am_e ad' ka h' o' y = am_e ad ka h o y := by
  unfold am_e
  rw [h1]
  by_cases k : y.1 < 13
  · rw [if_pos k, if_pos k, an_fs_c (h2 k)]
  · rw [if_neg k, if_neg k]
    by_cases k5 : y.1 = 15
    · rw [if_pos k5, if_pos k5]
    · rw [if_neg k5, if_neg k5]
      by_cases k7 : y.1 = 17
      · rw [if_pos k7, if_pos k7]
        simp only [h3 k7]
      · rw [if_neg k7, if_neg k7]
theorem an_c_app {ad1 ad2 : Nat → Nat} {ka : Nat → ClassId} {Y1 Y2 : am_Y} {h1 h2 : am_H} {n : Nat} (hn : Y1.length = n) (hc : an_clo Y1 = true) : am_c (an_ap n ad1 ad2) ka (Y1 ++ Y2) (an_ap n h1 h2) = am_c ad1 ka Y1 h1 ++ am_c ad2 ka Y2 h2 := by
  subst hn
  apply List.ext_getElem?
  intro o
  by_cases k : o < Y1.length
  · have hy : Y1[o]? = some Y1[o] := List.getElem?_eq_getElem k
    have hy2 : (Y1 ++ Y2)[o]? = some Y1[o] := by rw [List.getElem?_append_left k, hy]
    rw [List.getElem?_append_left (by rw [am_c_len]; exact k), am_c_at hy2, am_c_at hy, an_ap_lt k]
    have cl := an_clo_at hc hy
    rw [an_e_c (ad := ad1) (h := h1) (o := o) (an_ap_lt k) (fun z f hf => (cl.1 z f hf).elim Or.inl fun q => Or.inr (an_ap_lt q)) (fun z => absurd z cl.2)]
  · rw [List.getElem?_append_right (by rw [am_c_len]; omega), am_c_len]
    obtain ⟨i, rfl⟩ : ∃ i, o = Y1.length + i := ⟨o - Y1.length, by omega⟩
    rw [Nat.add_sub_cancel_left]
    cases hy : Y2[i]? with
    | none =>
      have := List.getElem?_eq_none_iff.mp hy
      rw [List.getElem?_eq_none (by rw [am_c_len, List.length_append]; omega), List.getElem?_eq_none (by rw [am_c_len]; omega)]
    | some y =>
      have hy2 : (Y1 ++ Y2)[Y1.length + i]? = some y := by rw [List.getElem?_append_right (by omega), Nat.add_sub_cancel_left, hy]
      rw [am_c_at hy2, am_c_at hy, an_ap_r]
      rw [an_e_c (ad := ad2) (h := h2) (o := i) an_ap_r (fun z f hf => Or.inr (by rw [Nat.add_assoc, an_ap_r])) (fun z j => by rw [show Y1.length + i + 1 + 24 * j = Y1.length + (i + 1 + 24 * j) from by omega, an_ap_r])]
theorem an_c_cons {h0 k : Nat} {fs : List Value} {g : Nat → Int} {ad : Nat → Nat} {ka : Nat → ClassId} {Y : am_Y} {h : am_H} (hk : k < 13) (hfs : fs = am_fs (an_ap 1 (fun _ => h0) ad) 0 g (am_fk k)) : ((h0, .inr (k, fs)) :: am_c ad ka Y h : va_W) = am_c (an_ap 1 (fun _ => h0) ad) ka ((k, 0) :: Y) (an_ap 1 (fun _ => g) h) := by
  apply List.ext_getElem?
  intro o
  cases o with
  | zero =>
    have hy : ((k, 0) :: Y : am_Y)[0]? = some (k, 0) := rfl
    rw [am_c_at hy, am_e_o hk, an_ap_lt (by omega), hfs, an_ap_lt (by omega)]
    rfl
  | succ i =>
    rw [List.getElem?_cons_succ]
    cases hy : Y[i]? with
    | none =>
      have := List.getElem?_eq_none_iff.mp hy
      rw [List.getElem?_eq_none (by rw [am_c_len]; omega), List.getElem?_eq_none (by rw [am_c_len, List.length_cons]; omega)]
    | some y =>
      have hy2 : ((k, 0) :: Y : am_Y)[i + 1]? = some y := by rw [List.getElem?_cons_succ, hy]
      rw [am_c_at hy2, am_c_at hy, show i + 1 = 1 + i from by omega, an_ap_r]
      rw [an_e_c (ad := ad) (h := h) (o := i) an_ap_r (fun z f hf => Or.inr (by rw [Nat.add_assoc, an_ap_r])) (fun z j => by rw [show 1 + i + 1 + 24 * j = 1 + (i + 1 + 24 * j) from by omega, an_ap_r])]
/-- all zero -/
abbrev an_z : am_H := fun _ _ => 0
theorem am_rg_0 (t : Nat) : am_rg t 0 := ⟨fun _ => ⟨by omega, by omega⟩, fun _ => ⟨by omega, by omega⟩, fun _ => Or.inl rfl, fun _ => ⟨by omega, by omega⟩⟩
theorem an_ok_z {Y : am_Y} : am_ok Y an_z := fun _ _ _ _ => am_rg_0 _
theorem an_ok_app {Y1 Y2 : am_Y} {h1 h2 : am_H} {n : Nat} (hn : Y1.length = n) (o1 : am_ok Y1 h1) (o2 : am_ok Y2 h2) : am_ok (Y1 ++ Y2) (an_ap n h1 h2) := by
  subst hn
  intro o y hy j
  by_cases k : o < Y1.length
  · rw [List.getElem?_append_left k] at hy
    rw [an_ap_lt k]
    exact o1 o y hy j
  · rw [List.getElem?_append_right (by omega)] at hy
    rw [an_ap_ge (by omega)]
    exact o2 _ y hy j
theorem an_ok_cons {k : Nat} {Y : am_Y} {h : am_H} (o1 : am_ok Y h) : am_ok ((k, 0) :: Y) (an_ap 1 (fun _ _ => 0) h) :=
  an_ok_app (Y1 := [(k, 0)]) rfl (fun _ _ _ _ => am_rg_0 _) o1
def an_A (h0 sz : Nat) : Nat → Prop := fun q => q = h0 ∨ sz ≤ q
theorem am_str.narrow {sa : Nat × Nat} {A B : Nat → Prop} {U : State} {H : Heap} (h : am_str sa A U H) (hAB : ∀ q, B q → A q) : am_str sa B U H := by
  exact ⟨h.1, h.2.1.narrow hAB, h.2.2.1.narrow hAB, h.2.2.2.narrow hAB⟩
