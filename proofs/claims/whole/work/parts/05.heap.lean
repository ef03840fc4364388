/-! rows: fields, arrays, ends -/
def am_fo (k j : Nat) (ref n dsc : String) (t : Nat) (fin : Bool) : Prop :=
  ∃ (C : String) (T : u_T) (N : Nat) (ty : Nat → FieldType), am_cl[k]? = some (C, T, N) ∧ j < N ∧ T j = (ref, n, dsc, fin) ∧ (am_fk k).getD j 9 = t ∧ (am_fk k).length = N ∧ k < 13 ∧
    (∀ w ∈ u_ws C T N, w ∈ am_ws) ∧ (∀ i, i < N → parseFieldDescriptor (T i).2.2.1 = some (ty i)) ∧ (∀ a, a < N → ∀ b, b < N → a ≠ b → (T a).2.1 ≠ (T b).2.1) ∧ (t = 0 → ty j = .int) ∧ (t = 1 → ty j = .long) ∧ (t = 2 → ty j = .boolean)
theorem am_e_o {ad : Nat → Nat} {ka : Nat → ClassId} {h : am_H} {o k nn : Nat} (hk : k < 13) : am_e ad ka h o (k, nn) = .inr (k, am_fs ad o (h o) (am_fk k)) := by simp [am_e, hk]
theorem am_fs_at {ad : Nat → Nat} {o j t : Nat} {g : Nat → Int} {l : List Nat} (hj : j < l.length) (ht : l.getD j 9 = t) : (am_fs ad o g l)[j]? = some (am_fv ad o t (g j)) := by
  subst ht
  simp [am_fs, hj]
theorem am_fs_set {ad : Nat → Nat} {o j t : Nat} {g : Nat → Int} {x : Int} {l : List Nat} (hj : j < l.length) (ht : l.getD j 9 = t) : (am_fs ad o g l).set j (am_fv ad o t x) = am_fs ad o (fun i => if i = j then x else g i) l := by
  subst ht
  apply List.ext_getElem?
  intro q
  by_cases hq : q = j
  · subst hq
    rw [List.getElem?_set_self (by simpa [am_fs] using hj), am_fs_at hj rfl]
    simp
  · rw [List.getElem?_set_ne (Ne.symm hq)]
    by_cases hq2 : q < l.length
    · rw [am_fs_at hq2 rfl, am_fs_at hq2 rfl]
      simp [hq]
    · rw [List.getElem?_eq_none (by simpa [am_fs] using hq2), List.getElem?_eq_none (by simpa [am_fs] using hq2)]
theorem am_ok_u {Y : am_Y} {h : am_H} {o j : Nat} {x : Int} (ho : am_ok Y h) (hx : ∀ y, Y[o]? = some y → am_rg (am_ty y j) x) : am_ok Y (am_u h o j x) := by
  intro q y hq i
  by_cases e : q = o ∧ i = j
  · obtain ⟨rfl, rfl⟩ := e
    rw [am_u_s]
    exact hx y hq
  · unfold am_u
    rw [if_neg e]
    exact ho q y hq i
theorem am_ty_o {k nn j : Nat} (hk : k < 13) : am_ty (k, nn) j = (am_fk k).getD j 9 := by simp [am_ty, hk]
theorem am_rg0 {x : Int} (h : am_rg 0 x) : am_ri x := h.1 rfl
theorem am_rg1 {x : Int} (h : am_rg 1 x) : am_rl x := h.2.1 rfl
theorem am_rg2 {x : Int} (h : am_rg 2 x) : am_ri x := by
  rcases h.2.2.1 rfl with rfl | rfl <;> exact ⟨by omega, by omega⟩
theorem am_rg3 {x : Int} (h : am_rg 3 x) : am_ri x := ⟨by have := (h.2.2.2 rfl).1; omega, by have := (h.2.2.2 rfl).2; omega⟩
theorem am_0rg {x : Int} (h : am_ri x) : am_rg 0 x := ⟨fun _ => h, fun e => by omega, fun e => by omega, fun e => by omega⟩
theorem am_1rg {x : Int} (h : am_rl x) : am_rg 1 x := ⟨fun e => by omega, fun _ => h, fun e => by omega, fun e => by omega⟩
theorem am_2rg {x : Int} (h : x = 0 ∨ x = 1) : am_rg 2 x := ⟨fun e => by omega, fun e => by omega, fun _ => h, fun e => by omega⟩
theorem am_3rg {x : Int} (h : -128 ≤ x ∧ x < 128) : am_rg 3 x := ⟨fun e => by omega, fun e => by omega, fun e => by omega, fun _ => h⟩
theorem am_u_f (h : am_H) (o j : Nat) (x : Int) : am_u h o j x o = fun i => if i = j then x else h o i := by
  funext i
  simp [am_u]
theorem am_u_n (h : am_H) (o j : Nat) (x : Int) : ∀ q, q ≠ o → am_u h o j x q = h q := fun q hq => by
  funext i
  simp [am_u, hq]
section
variable {M : am_M} {d : Nat} {Y : am_Y} {pc : Nat} {ls : am_L} {st : List am_V} {h : am_H} {Q : Option am_V → am_H → Prop}
theorem am_get_ {o k nn j t idx : Nat} {ref n dsc : String} {fin : Bool} {v : am_V} (hd : decode M.2.1 pc = .ok (.getfield idx, 3)) (hY : Y[o]? = some (k, nn)) (hf : am_fo k j ref n dsc t fin) (hl : Cond.fieldLink M.1.cls idx ref n dsc ∈ am_ws) (hv : ∀ ad, am_fv ad o t (h o j) = am_vv ad v) (hg : am_rg t (h o j) → am_rv v) (kk : am_wp M d Y (pc + 3) ls (v :: st) h Q) : am_wp M d Y pc ls (.inr (.inr o) :: st) h Q := by
  intro p l e s m args below meth c G A H locs r X hP hD hS ho hll hs hr
  obtain ⟨C, T, N, ty, f1, f2, f3, f4, f5, f6, f7, f8, f9, -⟩ := hf
  have he := am_c_at (ad := G.2.1) (ka := G.2.2.1) (h := h) hY
  rw [am_e_o f6] at he
  have hg2 := ho o _ hY j
  rw [am_ty_o f6, f4] at hg2
  refine va_get (T := T) (ref := ref) X.1 X.2.1 X.2.2.2.2.2.2.1 f7 X.2.2.2.2.1 X.2.2.2.2.2.2.2.2.1 hP o he f1 j f2 (by rw [f3]; exact X.2.2.2.2.2.2.1 _ hl) (fun x hx => by rw [f3] at hx ⊢; exact hx) (am_fs_at (by rw [f5]; exact f2) f4) hd ?_
  rw [hv]
  exact kk p l e s m args below meth c G A H locs r X hP hD hS ho hll (am_cs (hg hg2) (am_tl hs)) hr
theorem am_getI {o k nn j idx : Nat} {ref n dsc : String} {fin : Bool} (hd : decode M.2.1 pc = .ok (.getfield idx, 3)) (hf : am_fo k j ref n dsc 0 fin) (hl : Cond.fieldLink M.1.cls idx ref n dsc ∈ am_ws) (hY : Y[o]? = some (k, nn)) (kk : am_wp M d Y (pc + 3) ls (.inl (h o j) :: st) h Q) : am_wp M d Y pc ls (.inr (.inr o) :: st) h Q :=
  am_get_ hd hY hf hl (fun _ => rfl) am_rg0 kk
theorem am_getZ {o k nn j idx : Nat} {ref n dsc : String} {fin : Bool} (hd : decode M.2.1 pc = .ok (.getfield idx, 3)) (hf : am_fo k j ref n dsc 2 fin) (hl : Cond.fieldLink M.1.cls idx ref n dsc ∈ am_ws) (hY : Y[o]? = some (k, nn)) (kk : am_wp M d Y (pc + 3) ls (.inl (h o j) :: st) h Q) : am_wp M d Y pc ls (.inr (.inr o) :: st) h Q :=
  am_get_ hd hY hf hl (fun _ => rfl) am_rg2 kk
theorem am_getJ {o k nn j idx : Nat} {ref n dsc : String} {fin : Bool} (hd : decode M.2.1 pc = .ok (.getfield idx, 3)) (hf : am_fo k j ref n dsc 1 fin) (hl : Cond.fieldLink M.1.cls idx ref n dsc ∈ am_ws) (hY : Y[o]? = some (k, nn)) (kk : am_wp M d Y (pc + 3) ls (.inr (.inl (h o j)) :: st) h Q) : am_wp M d Y pc ls (.inr (.inr o) :: st) h Q :=
  am_get_ hd hY hf hl (fun _ => rfl) am_rg1 kk
theorem am_getR {o k nn j idx q : Nat} {ref n dsc : String} {fin : Bool} (hd : decode M.2.1 pc = .ok (.getfield idx, 3)) (hf : am_fo k j ref n dsc (q + 3) fin) (hl : Cond.fieldLink M.1.cls idx ref n dsc ∈ am_ws) (hY : Y[o]? = some (k, nn)) (kk : am_wp M d Y (pc + 3) ls (.inr (.inr (o + q)) :: st) h Q) : am_wp M d Y pc ls (.inr (.inr o) :: st) h Q :=
  am_get_ (v := .inr (.inr (o + q))) hd hY hf hl (fun ad => by simp [am_fv, am_vv]) (fun _ => trivial) kk
theorem am_put_ {o k nn j t idx : Nat} {ref n dsc : String} {x : Int} {v : am_V} {ft : FieldType} (hd : decode M.2.1 pc = .ok (.putfield idx, 3)) (hY : Y[o]? = some (k, nn)) (hf : am_fo k j ref n dsc t false) (hl : Cond.fieldLink M.1.cls idx ref n dsc ∈ am_ws) (hv : ∀ ad, am_fv ad o t x = am_vv ad v) (hg : am_rg t x) (hty : ∀ ty : Nat → FieldType, ((t = 0 → ty j = .int) ∧ (t = 1 → ty j = .long) ∧ (t = 2 → ty j = .boolean)) → ty j = ft) (hn : ∀ ad, narrow ft (am_vv ad v) = am_vv ad v ∧ fits ft (am_vv ad v) = true) (kk : am_wp M d Y (pc + 3) ls st (am_u h o j x) Q) : am_wp M d Y pc ls (v :: .inr (.inr o) :: st) h Q := by
  intro p l e s m args below meth c G A H locs r X hP hD hS ho hll hs hr
  obtain ⟨C, T, N, ty, f1, f2, f3, f4, f5, f6, f7, f8, f9, f10⟩ := hf
  have he := am_c_at (ad := G.2.1) (ka := G.2.2.1) (h := h) hY
  rw [am_e_o f6] at he
  have hset : (am_c G.2.1 G.2.2.1 Y h).set o (G.2.1 o, .inr (k, (am_fs G.2.1 o (h o) (am_fk k)).set j (am_vv G.2.1 v))) = am_c G.2.1 G.2.2.1 Y (am_u h o j x) := by
    refine am_c_set hY ?_ (am_u_n h o j x)
    rw [am_e_o f6, ← hv, am_fs_set (by rw [f5]; exact f2) f4, am_u_f]
  refine va_put (T := T) (ref := ref) X.1 X.2.1 X.2.2.2.2.2.2.1 f7 ty f8 f9 X.2.2.2.2.1 X.2.2.2.2.2.2.2.2.1 hP hD hS o he f1 j f2 (by rw [f3]; exact X.2.2.2.2.2.2.1 _ hl) (fun x hx => by rw [f3] at hx ⊢; exact hx) (by rw [f3]) (f8 j f2) (by rw [hty ty f10]; exact (hn _).1) (by rw [hty ty f10]; exact (hn _).2) (by simp only [am_fs, List.length_map, List.length_range]; rw [f5]; exact f2) hd ?_
  intro H1 locs1 hP1 hD1 hS1
  rw [hset] at hP1 hD1
  refine kk p l e s m args below meth c G A H1 locs1 r X hP1 hD1 hS1 (am_ok_u ho fun y hy => ?_) hll (am_tl (am_tl hs)) hr
  rw [hY] at hy
  cases hy
  rw [am_ty_o f6, f4]
  exact hg
theorem am_putI {o k nn j idx : Nat} {ref n dsc : String} {x : Int} (hd : decode M.2.1 pc = .ok (.putfield idx, 3)) (hf : am_fo k j ref n dsc 0 false) (hl : Cond.fieldLink M.1.cls idx ref n dsc ∈ am_ws) (hY : Y[o]? = some (k, nn)) (kk : am_wp M d Y (pc + 3) ls st (am_u h o j x) Q) : am_wp M d Y pc ls (.inl x :: .inr (.inr o) :: st) h Q :=
  am_wp.rg fun _ _ hs => am_put_ (ft := .int) hd hY hf hl (fun _ => rfl) (am_0rg (am_hd hs)) (fun _ hh => hh.1 rfl) (fun _ => ⟨rfl, rfl⟩) kk
theorem am_putJ {o k nn j idx : Nat} {ref n dsc : String} {x : Int} (hd : decode M.2.1 pc = .ok (.putfield idx, 3)) (hf : am_fo k j ref n dsc 1 false) (hl : Cond.fieldLink M.1.cls idx ref n dsc ∈ am_ws) (hY : Y[o]? = some (k, nn)) (kk : am_wp M d Y (pc + 3) ls st (am_u h o j x) Q) : am_wp M d Y pc ls (.inr (.inl x) :: .inr (.inr o) :: st) h Q :=
  am_wp.rg fun _ _ hs => am_put_ (ft := .long) hd hY hf hl (fun _ => rfl) (am_1rg (am_hd hs)) (fun _ hh => hh.2.1 rfl) (fun _ => ⟨rfl, rfl⟩) kk
theorem am_putZ {o k nn j idx : Nat} {ref n dsc : String} {x : Int} (hd : decode M.2.1 pc = .ok (.putfield idx, 3)) (hf : am_fo k j ref n dsc 2 false) (hl : Cond.fieldLink M.1.cls idx ref n dsc ∈ am_ws) (hY : Y[o]? = some (k, nn)) (hx : x = 0 ∨ x = 1) (kk : am_wp M d Y (pc + 3) ls st (am_u h o j x) Q) : am_wp M d Y pc ls (.inl x :: .inr (.inr o) :: st) h Q :=
  am_put_ (ft := .boolean) hd hY hf hl (fun _ => rfl) (am_2rg hx) (fun _ hh => hh.2.2 rfl) (fun _ => by rcases hx with rfl | rfl <;> exact ⟨rfl, rfl⟩) kk
-- arrays
theorem am_e14 {ad : Nat → Nat} {ka : Nat → ClassId} {h : am_H} {o n : Nat} : am_e ad ka h o (14, n) = .inl (ka 14, n, .inl (fun j => Int32.ofInt (h o j))) := by simp [am_e]
theorem am_e13 {ad : Nat → Nat} {ka : Nat → ClassId} {h : am_H} {o n : Nat} : am_e ad ka h o (13, n) = .inl (ka 13, n, .inl (fun j => Int32.ofInt (h o j))) := by simp [am_e]
theorem am_e16 {ad : Nat → Nat} {ka : Nat → ClassId} {h : am_H} {o n : Nat} : am_e ad ka h o (16, n) = .inl (ka 16, n, .inl (fun j => Int32.ofInt (h o j))) := by simp [am_e]
theorem am_e15 {ad : Nat → Nat} {ka : Nat → ClassId} {h : am_H} {o n : Nat} : am_e ad ka h o (15, n) = .inl (ka 15, n, .inr (.inl (fun j => Int64.ofInt (h o j)))) := by simp [am_e]
theorem am_e17 {ad : Nat → Nat} {ka : Nat → ClassId} {h : am_H} {o n : Nat} : am_e ad ka h o (17, n) = .inl (ka 17, n, .inr (.inr (.inr (.inr (fun j => some (ad (o + 1 + 24 * j))))))) := by simp [am_e]
theorem am_upd {g : Nat → Int} {i : Nat} {x : Int} : upd (fun j => Int32.ofInt (g j)) i (Int32.ofInt x) = fun j => Int32.ofInt (if j = i then x else g j) := by
  funext j
  unfold upd
  by_cases hj : j = i <;> simp [hj]
theorem am_updL {g : Nat → Int} {i : Nat} {x : Int} : vp_updL (fun j => Int64.ofInt (g j)) i (Int64.ofInt x) = fun j => Int64.ofInt (if j = i then x else g j) := by
  funext j
  unfold vp_updL
  by_cases hj : j = i <;> simp [hj]
theorem am_iald {o n : Nat} {i : Int} (hd : decode M.2.1 pc = .ok (.iaload, 1)) (hY : Y[o]? = some (14, n)) (hi : 0 ≤ i ∧ i < n) (kk : am_wp M d Y (pc + 1) ls (.inl (h o i.toNat) :: st) h Q) : am_wp M d Y pc ls (.inl i :: .inr (.inr o) :: st) h Q := by
  intro p l e s m args below meth c G A H locs r X hP hD hS ho hll hs hr
  have he := am_c_at (ad := G.2.1) (ka := G.2.2.1) (h := h) hY
  rw [am_e14] at he
  have hir : am_ri i := am_hd hs
  refine va_iald X.1 X.2.1 X.2.2.2.2.2.2.2.2.1 hP o 1 he rfl (am_in hir hi.1 hi.2) hd ?_
  rw [am_cn hir]
  exact kk p l e s m args below meth c G A H locs r X hP hD hS ho hll (am_cs (am_rg0 (ho o _ hY i.toNat)) (am_tl (am_tl hs))) hr
theorem am_bald {o n : Nat} {i : Int} (hd : decode M.2.1 pc = .ok (.baload, 1)) (hY : Y[o]? = some (13, n)) (hi : 0 ≤ i ∧ i < n) (kk : am_wp M d Y (pc + 1) ls (.inl (h o i.toNat) :: st) h Q) : am_wp M d Y pc ls (.inl i :: .inr (.inr o) :: st) h Q := by
  intro p l e s m args below meth c G A H locs r X hP hD hS ho hll hs hr
  have he := am_c_at (ad := G.2.1) (ka := G.2.2.1) (h := h) hY
  rw [am_e13] at he
  have hir : am_ri i := am_hd hs
  refine va_bald X.1 X.2.1 X.2.2.2.2.2.2.2.2.1 hP o 0 he rfl (am_in hir hi.1 hi.2) hd ?_
  rw [am_cn hir]
  exact kk p l e s m args below meth c G A H locs r X hP hD hS ho hll (am_cs (am_rg3 (ho o _ hY i.toNat)) (am_tl (am_tl hs))) hr
theorem am_zald {o n : Nat} {i : Int} (hd : decode M.2.1 pc = .ok (.baload, 1)) (hY : Y[o]? = some (16, n)) (hi : 0 ≤ i ∧ i < n) (kk : am_wp M d Y (pc + 1) ls (.inl (h o i.toNat) :: st) h Q) : am_wp M d Y pc ls (.inl i :: .inr (.inr o) :: st) h Q := by
  intro p l e s m args below meth c G A H locs r X hP hD hS ho hll hs hr
  have he := am_c_at (ad := G.2.1) (ka := G.2.2.1) (h := h) hY
  rw [am_e16] at he
  have hir : am_ri i := am_hd hs
  refine va_zald X.1 X.2.1 X.2.2.2.2.2.2.2.2.1 hP o 3 he rfl (am_in hir hi.1 hi.2) hd ?_
  rw [am_cn hir]
  exact kk p l e s m args below meth c G A H locs r X hP hD hS ho hll (am_cs (am_rg2 (ho o _ hY i.toNat)) (am_tl (am_tl hs))) hr
theorem am_lald {o n : Nat} {i : Int} (hd : decode M.2.1 pc = .ok (.laload, 1)) (hY : Y[o]? = some (15, n)) (hi : 0 ≤ i ∧ i < n) (kk : am_wp M d Y (pc + 1) ls (.inr (.inl (h o i.toNat)) :: st) h Q) : am_wp M d Y pc ls (.inl i :: .inr (.inr o) :: st) h Q := by
  intro p l e s m args below meth c G A H locs r X hP hD hS ho hll hs hr
  have he := am_c_at (ad := G.2.1) (ka := G.2.2.1) (h := h) hY
  rw [am_e15] at he
  have hir : am_ri i := am_hd hs
  refine va_lald X.1 X.2.1 X.2.2.2.2.2.2.2.2.1 hP o 2 he rfl (am_in hir hi.1 hi.2) hd ?_
  rw [am_cn hir]
  exact kk p l e s m args below meth c G A H locs r X hP hD hS ho hll (am_cs (am_rg1 (ho o _ hY i.toNat)) (am_tl (am_tl hs))) hr
theorem am_aald {o n : Nat} {i : Int} (hd : decode M.2.1 pc = .ok (.aaload, 1)) (hY : Y[o]? = some (17, n)) (hi : 0 ≤ i ∧ i < n) (kk : am_wp M d Y (pc + 1) ls (.inr (.inr (o + 1 + 24 * i.toNat)) :: st) h Q) : am_wp M d Y pc ls (.inl i :: .inr (.inr o) :: st) h Q := by
  intro p l e s m args below meth c G A H locs r X hP hD hS ho hll hs hr
  have he := am_c_at (ad := G.2.1) (ka := G.2.2.1) (h := h) hY
  rw [am_e17] at he
  have hir : am_ri i := am_hd hs
  refine va_aldq (C := "NightHelp$State") X.1 X.2.1 X.2.2.2.2.2.2.2.2.1 hP o 4 he rfl (am_in hir hi.1 hi.2) hd ?_
  rw [am_cn hir]
  exact kk p l e s m args below meth c G A H locs r X hP hD hS ho hll (am_cs trivial (am_tl (am_tl hs))) hr
theorem am_iast {o n : Nat} {i x : Int} (hd : decode M.2.1 pc = .ok (.iastore, 1)) (hY : Y[o]? = some (14, n)) (hi : 0 ≤ i ∧ i < n) (kk : am_wp M d Y (pc + 1) ls st (am_u h o i.toNat x) Q) : am_wp M d Y pc ls (.inl x :: .inl i :: .inr (.inr o) :: st) h Q := by
  intro p l e s m args below meth c G A H locs r X hP hD hS ho hll hs hr
  have he := am_c_at (ad := G.2.1) (ka := G.2.2.1) (h := h) hY
  rw [am_e14] at he
  have hir : am_ri i := am_hd (am_tl hs)
  have hset : (am_c G.2.1 G.2.2.1 Y h).set o (G.2.1 o, .inl (G.2.2.1 14, n, .inl (upd (fun j => Int32.ofInt (h o j)) i.toNat (Int32.ofInt x)))) = am_c G.2.1 G.2.2.1 Y (am_u h o i.toNat x) := by
    refine am_c_set hY ?_ (am_u_n h o i.toNat x)
    rw [am_e14, am_upd, am_u_f]
  refine va_iast X.1 X.2.1 X.2.2.2.2.2.2.2.2.1 hP hD hS o 1 he rfl (am_in hir hi.1 hi.2) hd ?_
  rw [am_cn hir, hset]
  intro H1 locs1 hP1 hD1 hS1
  refine kk p l e s m args below meth c G A H1 locs1 r X hP1 hD1 hS1 (am_ok_u ho fun y hy => ?_) hll (am_tl (am_tl (am_tl hs))) hr
  rw [hY] at hy
  cases hy
  exact am_0rg (am_hd hs)
theorem am_bast {o n : Nat} {i x : Int} (hd : decode M.2.1 pc = .ok (.bastore, 1)) (hY : Y[o]? = some (13, n)) (hi : 0 ≤ i ∧ i < n) (hx : -128 ≤ x ∧ x < 128) (kk : am_wp M d Y (pc + 1) ls st (am_u h o i.toNat x) Q) : am_wp M d Y pc ls (.inl x :: .inl i :: .inr (.inr o) :: st) h Q := by
  intro p l e s m args below meth c G A H locs r X hP hD hS ho hll hs hr
  have he := am_c_at (ad := G.2.1) (ka := G.2.2.1) (h := h) hY
  rw [am_e13] at he
  have hir : am_ri i := am_hd (am_tl hs)
  have hnx : vp_nar .byte (Int32.ofInt x) = Int32.ofInt x := by
    rw [vp_nar_byte, Int32.toInt8_ofInt]
    exact Int8.toInt32_ofInt hx.1 (show x ≤ 127 by omega)
  have hset : (am_c G.2.1 G.2.2.1 Y h).set o (G.2.1 o, .inl (G.2.2.1 13, n, .inl (upd (fun j => Int32.ofInt (h o j)) i.toNat (Int32.ofInt x)))) = am_c G.2.1 G.2.2.1 Y (am_u h o i.toNat x) := by
    refine am_c_set hY ?_ (am_u_n h o i.toNat x)
    rw [am_e13, am_upd, am_u_f]
  refine va_bast X.1 X.2.1 X.2.2.2.2.2.2.2.2.1 hP hD hS o 0 he rfl (am_in hir hi.1 hi.2) hd ?_
  rw [am_cn hir, hnx, hset]
  intro H1 locs1 hP1 hD1 hS1
  refine kk p l e s m args below meth c G A H1 locs1 r X hP1 hD1 hS1 (am_ok_u ho fun y hy => ?_) hll (am_tl (am_tl (am_tl hs))) hr
  rw [hY] at hy
  cases hy
  exact am_3rg hx
theorem am_zast {o n : Nat} {i x : Int} (hd : decode M.2.1 pc = .ok (.bastore, 1)) (hY : Y[o]? = some (16, n)) (hi : 0 ≤ i ∧ i < n) (hx : x = 0 ∨ x = 1) (kk : am_wp M d Y (pc + 1) ls st (am_u h o i.toNat x) Q) : am_wp M d Y pc ls (.inl x :: .inl i :: .inr (.inr o) :: st) h Q := by
  intro p l e s m args below meth c G A H locs r X hP hD hS ho hll hs hr
  have he := am_c_at (ad := G.2.1) (ka := G.2.2.1) (h := h) hY
  rw [am_e16] at he
  have hir : am_ri i := am_hd (am_tl hs)
  have hnx : vp_nar .boolean (Int32.ofInt x) = Int32.ofInt x := by rcases hx with rfl | rfl <;> rfl
  have hset : (am_c G.2.1 G.2.2.1 Y h).set o (G.2.1 o, .inl (G.2.2.1 16, n, .inl (upd (fun j => Int32.ofInt (h o j)) i.toNat (Int32.ofInt x)))) = am_c G.2.1 G.2.2.1 Y (am_u h o i.toNat x) := by
    refine am_c_set hY ?_ (am_u_n h o i.toNat x)
    rw [am_e16, am_upd, am_u_f]
  refine va_zast X.1 X.2.1 X.2.2.2.2.2.2.2.2.1 hP hD hS o 3 he rfl (am_in hir hi.1 hi.2) hd ?_
  rw [am_cn hir, hnx, hset]
  intro H1 locs1 hP1 hD1 hS1
  refine kk p l e s m args below meth c G A H1 locs1 r X hP1 hD1 hS1 (am_ok_u ho fun y hy => ?_) hll (am_tl (am_tl (am_tl hs))) hr
  rw [hY] at hy
  cases hy
  exact am_2rg hx
theorem am_last {o n : Nat} {i x : Int} (hd : decode M.2.1 pc = .ok (.lastore, 1)) (hY : Y[o]? = some (15, n)) (hi : 0 ≤ i ∧ i < n) (kk : am_wp M d Y (pc + 1) ls st (am_u h o i.toNat x) Q) : am_wp M d Y pc ls (.inr (.inl x) :: .inl i :: .inr (.inr o) :: st) h Q := by
  intro p l e s m args below meth c G A H locs r X hP hD hS ho hll hs hr
  have he := am_c_at (ad := G.2.1) (ka := G.2.2.1) (h := h) hY
  rw [am_e15] at he
  have hir : am_ri i := am_hd (am_tl hs)
  have hset : (am_c G.2.1 G.2.2.1 Y h).set o (G.2.1 o, .inl (G.2.2.1 15, n, .inr (.inl (vp_updL (fun j => Int64.ofInt (h o j)) i.toNat (Int64.ofInt x))))) = am_c G.2.1 G.2.2.1 Y (am_u h o i.toNat x) := by
    refine am_c_set hY ?_ (am_u_n h o i.toNat x)
    rw [am_e15, am_updL, am_u_f]
  refine va_last X.1 X.2.1 X.2.2.2.2.2.2.2.2.1 hP hD hS o 2 he rfl (am_in hir hi.1 hi.2) hd ?_
  rw [am_cn hir, hset]
  intro H1 locs1 hP1 hD1 hS1
  refine kk p l e s m args below meth c G A H1 locs1 r X hP1 hD1 hS1 (am_ok_u ho fun y hy => ?_) hll (am_tl (am_tl (am_tl hs))) hr
  rw [hY] at hy
  cases hy
  exact am_1rg (am_hd hs)
theorem am_alen {o k n : Nat} (hd : decode M.2.1 pc = .ok (.arraylength, 1)) (hY : Y[o]? = some (k, n)) (hk : 13 ≤ k ∧ k ≤ 17) (hn : n < 2147483648) (kk : am_wp M d Y (pc + 1) ls (.inl (n : Int) :: st) h Q) : am_wp M d Y pc ls (.inr (.inr o) :: st) h Q := by
  intro p l e s m args below meth c G A H locs r X hP hD hS ho hll hs hr
  have he := am_c_at (ad := G.2.1) (ka := G.2.2.1) (h := h) hY
  have hkk := kk p l e s m args below meth c G A H locs r X hP hD hS ho hll (am_cs (show am_ri (n : Int) from ⟨by omega, by omega⟩) (am_tl hs)) hr
  have e1 : Int32.ofNat n = Int32.ofInt (n : Int) := rfl
  have hc : k = 13 ∨ k = 14 ∨ k = 15 ∨ k = 16 ∨ k = 17 := by omega
  rcases hc with rfl | rfl | rfl | rfl | rfl
  · rw [am_e13] at he
    exact va_alen X.1 X.2.1 X.2.2.2.2.2.2.2.2.1 hP o 0 he rfl e1 hd hkk
  · rw [am_e14] at he
    exact va_alen X.1 X.2.1 X.2.2.2.2.2.2.2.2.1 hP o 1 he rfl e1 hd hkk
  · rw [am_e15] at he
    exact va_alen X.1 X.2.1 X.2.2.2.2.2.2.2.2.1 hP o 2 he rfl e1 hd hkk
  · rw [am_e16] at he
    exact va_alen X.1 X.2.1 X.2.2.2.2.2.2.2.2.1 hP o 3 he rfl e1 hd hkk
  · rw [am_e17] at he
    exact va_alen X.1 X.2.1 X.2.2.2.2.2.2.2.2.1 hP o 4 he rfl e1 hd hkk
-- ends
theorem am_iret {x : Int} (hd : decode M.2.1 pc = .ok (.ireturn, 1)) (hr : M.2.2.2 = some .int) (hq : Q (some (.inl x)) h) : am_wp M d Y pc ls [.inl x] h Q := by
  intro p l e s m args below meth c G A H locs r X hP hD hS ho hll hs hr1
  refine W.iret X.1 X.2.1 (X.2.2.2.1.trans hr) (fun t ht _ => ⟨⟨some (.inl x), h, rfl, hq, ho, fun v hv => by cases hv; exact am_hd hs, by rw [ht]; exact hP⟩, hS.F ht⟩) hS.2.2 hd X.2.2.2.2.2.1
theorem am_zret {x : Int} (hd : decode M.2.1 pc = .ok (.ireturn, 1)) (hr : M.2.2.2 = some .boolean) (hx : x = 0 ∨ x = 1) (hq : Q (some (.inl x)) h) : am_wp M d Y pc ls [.inl x] h Q := by
  intro p l e s m args below meth c G A H locs r X hP hD hS ho hll hs hr1
  refine W.zret X.1 X.2.1 (X.2.2.2.1.trans hr) (by rcases hx with rfl | rfl <;> rfl) (fun t ht _ => ⟨⟨some (.inl x), h, rfl, hq, ho, fun v hv => by cases hv; exact am_hd hs, by rw [ht]; exact hP⟩, hS.F ht⟩) hS.2.2 hd X.2.2.2.2.2.1
theorem am_lret {x : Int} (hd : decode M.2.1 pc = .ok (.lreturn, 1)) (hr : M.2.2.2 = some .long) (hq : Q (some (.inr (.inl x))) h) : am_wp M d Y pc ls [.inr (.inl x)] h Q := by
  intro p l e s m args below meth c G A H locs r X hP hD hS ho hll hs hr1
  refine W.lret X.1 X.2.1 (X.2.2.2.1.trans hr) (fun t ht _ => ⟨⟨some (.inr (.inl x)), h, rfl, hq, ho, fun v hv => by cases hv; exact am_hd hs, by rw [ht]; exact hP⟩, hS.F ht⟩) hS.2.2 hd X.2.2.2.2.2.1
theorem am_vret (hd : decode M.2.1 pc = .ok (.return_, 1)) (hr : M.2.2.2 = none) (hq : Q none h) : am_wp M d Y pc ls [] h Q := by
  intro p l e s m args below meth c G A H locs r X hP hD hS ho hll hs hr1
  refine W.vret X.1 X.2.1 (X.2.2.2.1.trans hr) (fun t ht _ => ⟨⟨none, h, rfl, hq, ho, (fun v hv => by cases hv), by rw [ht]; exact hP⟩, hS.F ht⟩) hS.2.2 hd X.2.2.2.2.2.1
end
