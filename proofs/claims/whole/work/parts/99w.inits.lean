/-! the constructors -/
def an_R0 : Nat → Int := up (up (up (fun _ => 0) 3 3) 4 50) 5 10
theorem an_R0e : pInit (fun _ => 0) = an_R0 := by
  have z : zer (fun _ => 0) 0 325 = fun _ => 0 := by
    funext i
    unfold zer
    split <;> rfl
  unfold pInit an_R0
  rw [z]
theorem an_R0w : wV an_R0 := by
  rw [← an_R0e]
  exact pInit_v _
/-- a village, a book, a state as their constructors leave them -/
def zVl (h : am_H) (v : Nat) : Prop := (∀ j, j < 7 → h v j = if j = 4 then 3 else if j = 5 then 50 else if j = 6 then 10 else 0) ∧ (∀ j, j < 48 → h (v + 6) j = 0) ∧ (∀ j, j < 64 → h (v + 7) j = 0 ∧ h (v + 8) j = 0)
def zBk (h : am_H) (b : Nat) : Prop := (∀ J0 : am_H, bkR h b an_R0 (jClr J0) 0 0) ∧ h b 1 = 0
def zSt (h : am_H) (o : Nat) : Prop := h o = (fun _ => 0) ∧ zVl h (o + 1) ∧ zBk h (o + 12) ∧ h (o + 21) = (fun _ => 0) ∧ h (o + 22) = fun _ => 0
theorem zVl.c {h h' : am_H} {v v' : Nat} (z : zVl h v) (e : ∀ q, q < 11 → h' (v' + q) = h (v + q)) : zVl h' v' := by
  have e0 := e 0 (by omega)
  unfold zVl
  rw [show h' v' = h v from e0, e 6 (by omega), e 7 (by omega), e 8 (by omega)]
  exact z
theorem zBk.c {h h' : am_H} {v v' : Nat} (z : zBk h v) (e : ∀ q, q < 9 → h' (v' + q) = h (v + q)) : zBk h' v' := by
  have e0 : h' v' = h v := e 0 (by omega)
  have e6 : h' (v' + 5 + 1) = h (v + 5 + 1) := e 6 (by omega)
  unfold zBk bkR bdR
  rw [e0, e 1 (by omega), e 2 (by omega), e 3 (by omega), e 4 (by omega), e 5 (by omega), e 7 (by omega), e 8 (by omega), e6]
  exact z
theorem zSt.c {h h' : am_H} {v v' : Nat} (z : zSt h v) (e : ∀ q, q < 24 → h' (v' + q) = h (v + q)) : zSt h' v' := by
  obtain ⟨z1, z2, z3, z4, z5⟩ := z
  refine ⟨(e 0 (by omega)).trans z1, z2.c fun q hq => ?_, z3.c fun q hq => ?_, (e 21 (by omega)).trans z4, (e 22 (by omega)).trans z5⟩
  · rw [Nat.add_assoc, e (1 + q) (by omega), Nat.add_assoc]
  · rw [Nat.add_assoc, e (12 + q) (by omega), Nat.add_assoc]
theorem an_na14 (n : Nat) : ∀ (q : Nat) (ka : Nat → ClassId), am_c (fun _ => q) ka [(14, n)] an_z = [(q, .inl (ka 14, n, .inl (fun _ => 0)))] := fun q ka => by
  show [(q, am_e (fun _ => q) ka an_z 0 (14, n))] = _
  rw [am_e14]
  rfl
theorem an_na13 (n : Nat) : ∀ (q : Nat) (ka : Nat → ClassId), am_c (fun _ => q) ka [(13, n)] an_z = [(q, .inl (ka 13, n, .inl (fun _ => 0)))] := fun q ka => by
  show [(q, am_e (fun _ => q) ka an_z 0 (13, n))] = _
  rw [am_e13]
  rfl
theorem an_na16 (n : Nat) : ∀ (q : Nat) (ka : Nat → ClassId), am_c (fun _ => q) ka [(16, n)] an_z = [(q, .inl (ka 16, n, .inl (fun _ => 0)))] := fun q ka => by
  show [(q, am_e (fun _ => q) ka an_z 0 (16, n))] = _
  rw [am_e16]
  rfl
theorem an_na15 (n : Nat) : ∀ (q : Nat) (ka : Nat → ClassId), am_c (fun _ => q) ka [(15, n)] an_z = [(q, .inl (ka 15, n, .inr (.inl (fun _ => 0))))] := fun q ka => by
  show [(q, am_e (fun _ => q) ka an_z 0 (15, n))] = _
  rw [am_e15]
  rfl
theorem am_oi : Cond.instanceMethod Lib.objectInit ∈ am_ws := am_t 31 (by decide +kernel) (by decide +kernel)
theorem am_oc : Cond.code Lib.objectInit ⟨#[0xb1]⟩ 1 none ∈ am_ws := am_t 32 (by decide +kernel) (by decide +kernel)
theorem am_ab : Cond.arrayClass .byte ∈ am_ws := am_t 157 (by decide +kernel) (by decide +kernel)
theorem am_ai : Cond.arrayClass .int ∈ am_ws := am_t 158 (by decide +kernel) (by decide +kernel)
theorem am_aj : Cond.arrayClass .long ∈ am_ws := am_t 441 (by decide +kernel) (by decide +kernel)
theorem am_az : Cond.arrayClass .boolean ∈ am_ws := am_t 1573 (by decide +kernel) (by decide +kernel)
theorem an_ll1 : am_ll [some (.inr (.inr 0))] := fun i v hv => by
  have h9 := (List.getElem?_eq_some_iff.mp hv).1
  have h8 : i = 0 := by simpa using h9
  subst h8
  cases hv
  trivial
theorem an_lv1 {ad : Nat → Nat} {n h0 : Nat} {r : Array Slot} (h1 : r.size = n) (h2 : lv_wf r) (h3 : r[0]? = some (.val (.ref h0))) (he : ad 0 = h0 := by rfl) : am_lv ad n [some (.inr (.inr 0))] r := by
  subst he
  refine ⟨h1, h2, fun i v hv => ?_⟩
  have h9 := (List.getElem?_eq_some_iff.mp hv).1
  have h8 : i = 0 := by simpa using h9
  subst h8
  cases hv
  exact h3
theorem ad_Best_init_0 : decode prog_2_method_1_code 0 = .ok (.aload_n 0, 1) := by decide +kernel
theorem ad_Best_init_1 : decode prog_2_method_1_code 1 = .ok (.invokespecial 3, 3) := by decide +kernel
theorem ad_Best_init_4 : decode prog_2_method_1_code 4 = .ok (.aload_n 0, 1) := by decide +kernel
theorem ad_Best_init_5 : decode prog_2_method_1_code 5 = .ok (.sipush 210, 3) := by decide +kernel
theorem ad_Best_init_8 : decode prog_2_method_1_code 8 = .ok (.newarray .long, 2) := by decide +kernel
theorem ad_Best_init_10 : decode prog_2_method_1_code 10 = .ok (.putfield 11, 3) := by decide +kernel
theorem ad_Best_init_13 : decode prog_2_method_1_code 13 = .ok (.aload_n 0, 1) := by decide +kernel
theorem ad_Best_init_14 : decode prog_2_method_1_code 14 = .ok (.sipush 210, 3) := by decide +kernel
theorem ad_Best_init_17 : decode prog_2_method_1_code 17 = .ok (.newarray .int, 2) := by decide +kernel
theorem ad_Best_init_19 : decode prog_2_method_1_code 19 = .ok (.putfield 15, 3) := by decide +kernel
theorem ad_Best_init_22 : decode prog_2_method_1_code 22 = .ok (.aload_n 0, 1) := by decide +kernel
theorem ad_Best_init_23 : decode prog_2_method_1_code 23 = .ok (.lconst 0, 1) := by decide +kernel
theorem ad_Best_init_24 : decode prog_2_method_1_code 24 = .ok (.putfield 19, 3) := by decide +kernel
theorem ad_Best_init_27 : decode prog_2_method_1_code 27 = .ok (.aload_n 0, 1) := by decide +kernel
theorem ad_Best_init_28 : decode prog_2_method_1_code 28 = .ok (.lconst 0, 1) := by decide +kernel
theorem ad_Best_init_29 : decode prog_2_method_1_code 29 = .ok (.putfield 23, 3) := by decide +kernel
theorem ad_Best_init_32 : decode prog_2_method_1_code 32 = .ok (.aload_n 0, 1) := by decide +kernel
theorem ad_Best_init_33 : decode prog_2_method_1_code 33 = .ok (.lconst 0, 1) := by decide +kernel
theorem ad_Best_init_34 : decode prog_2_method_1_code 34 = .ok (.putfield 26, 3) := by decide +kernel
theorem ad_Best_init_37 : decode prog_2_method_1_code 37 = .ok (.return_, 1) := by decide +kernel
theorem an_df0 : ∀ j, j < 5 → defaultValue (am_y0 j) = vp_V (an_f0 (am_fk 0)) j := by decide +kernel
theorem ai_Best : an_CP am_Best_init 0 2 2 420 am_L0 (fun _ => True) := by
  refine an_CP.of (by decide) rfl rfl [.null, .null, .long 0, .long 0, .long 0] rfl fun p l e s m args below meth c G A h0 r hO hAe hin hrs hr0 hwf => ?_
  refine an_Dal (pc := 0) ad_Best_init_0 hr0 ?_
  refine an_Dobj (pc := 1) ad_Best_init_1 (am_t 424 (by decide +kernel) (by decide +kernel)) am_oi am_oc hrs (Nat.le_of_ble_eq_true rfl) (Nat.le_of_ble_eq_true rfl) (Nat.le_of_ble_eq_true rfl) ?_
  refine an_Dal (pc := 4) ad_Best_init_4 hr0 ?_
  refine an_Dsi (pc := 5) ad_Best_init_5 ⟨by decide, by decide⟩ ?_
  refine an_Dna (pc := 8) (n0 := 0) (K := 15) (n := 210) (t0 := 2) (ty := .long) (atype := .long) (a0 := (210, .inr (.inl (fun _ => 0)))) rfl (by decide +kernel) ad_Best_init_8 rfl am_aj (fun _ => rfl) (an_na15 210) (fun _ => rfl) (by decide) (by decide) (Nat.le_of_ble_eq_true rfl) (Nat.le_of_ble_eq_true rfl) (Nat.le_of_ble_eq_true rfl) fun q0 => ?_
  refine an_Dpf (pc := 10) (fty := .array .long) (fs1 := [.ref q0, .null, .long 0, .long 0, .long 0]) hin rfl ad_Best_init_10 am_f0_0 am_fl_Best_11 (by decide +kernel) rfl rfl (Nat.le_of_ble_eq_true rfl) rfl ?_
  refine an_Dal (pc := 13) ad_Best_init_13 hr0 ?_
  refine an_Dsi (pc := 14) ad_Best_init_14 ⟨by decide, by decide⟩ ?_
  refine an_Dna (pc := 17) (n0 := 1) (K := 14) (n := 210) (t0 := 1) (ty := .int) (atype := .int) (a0 := (210, .inl (fun _ => 0))) rfl (by decide +kernel) ad_Best_init_17 rfl am_ai (fun _ => rfl) (an_na14 210) (fun _ => rfl) (by decide) (by decide) (Nat.le_of_ble_eq_true rfl) (Nat.le_of_ble_eq_true rfl) (Nat.le_of_ble_eq_true rfl) fun q1 => ?_
  refine an_Dpf (pc := 19) (fty := .array .int) (fs1 := [.ref q0, .ref q1, .long 0, .long 0, .long 0]) hin rfl ad_Best_init_19 am_f0_1 am_fl_Best_15 (by decide +kernel) rfl rfl (Nat.le_of_ble_eq_true rfl) rfl ?_
  refine an_Dal (pc := 22) ad_Best_init_22 hr0 ?_
  refine an_Dlc (pc := 23) ad_Best_init_23 ?_
  refine an_Dpn (pc := 24) (fty := .long) (fs1 := [.ref q0, .ref q1, .long 0, .long 0, .long 0]) ad_Best_init_24 am_f0_2 am_fl_Best_19 (by decide +kernel) rfl rfl (Nat.le_of_ble_eq_true rfl) rfl ?_
  refine an_Dal (pc := 27) ad_Best_init_27 hr0 ?_
  refine an_Dlc (pc := 28) ad_Best_init_28 ?_
  refine an_Dpn (pc := 29) (fty := .long) (fs1 := [.ref q0, .ref q1, .long 0, .long 0, .long 0]) ad_Best_init_29 am_f0_3 am_fl_Best_23 (by decide +kernel) rfl rfl (Nat.le_of_ble_eq_true rfl) rfl ?_
  refine an_Dal (pc := 32) ad_Best_init_32 hr0 ?_
  refine an_Dlc (pc := 33) ad_Best_init_33 ?_
  refine an_Dpn (pc := 34) (fty := .long) (fs1 := [.ref q0, .ref q1, .long 0, .long 0, .long 0]) ad_Best_init_34 am_f0_4 am_fl_Best_26 (by decide +kernel) rfl rfl (Nat.le_of_ble_eq_true rfl) rfl ?_
  refine an_Dfin (fun _ => 0) (fun _ => am_rg_0 _) (Nat.le_of_ble_eq_true rfl) rfl ?_
  refine an_DY (Y' := am_L0) rfl ?_
  exact an_Dret hAe ad_Best_init_37 rfl rfl trivial (Nat.le_of_ble_eq_true rfl) (Nat.le_of_ble_eq_true rfl)
theorem ad_Bonds_init_0 : decode prog_3_method_1_code 0 = .ok (.aload_n 0, 1) := by decide +kernel
theorem ad_Bonds_init_1 : decode prog_3_method_1_code 1 = .ok (.invokespecial 3, 3) := by decide +kernel
theorem ad_Bonds_init_4 : decode prog_3_method_1_code 4 = .ok (.aload_n 0, 1) := by decide +kernel
theorem ad_Bonds_init_5 : decode prog_3_method_1_code 5 = .ok (.sipush 384, 3) := by decide +kernel
theorem ad_Bonds_init_8 : decode prog_3_method_1_code 8 = .ok (.newarray .int, 2) := by decide +kernel
theorem ad_Bonds_init_10 : decode prog_3_method_1_code 10 = .ok (.putfield 9, 3) := by decide +kernel
theorem ad_Bonds_init_13 : decode prog_3_method_1_code 13 = .ok (.aload_n 0, 1) := by decide +kernel
theorem ad_Bonds_init_14 : decode prog_3_method_1_code 14 = .ok (.sipush 384, 3) := by decide +kernel
theorem ad_Bonds_init_17 : decode prog_3_method_1_code 17 = .ok (.newarray .int, 2) := by decide +kernel
theorem ad_Bonds_init_19 : decode prog_3_method_1_code 19 = .ok (.putfield 15, 3) := by decide +kernel
theorem ad_Bonds_init_22 : decode prog_3_method_1_code 22 = .ok (.aload_n 0, 1) := by decide +kernel
theorem ad_Bonds_init_23 : decode prog_3_method_1_code 23 = .ok (.iconst 0, 1) := by decide +kernel
theorem ad_Bonds_init_24 : decode prog_3_method_1_code 24 = .ok (.putfield 18, 3) := by decide +kernel
theorem ad_Bonds_init_27 : decode prog_3_method_1_code 27 = .ok (.aload_n 0, 1) := by decide +kernel
theorem ad_Bonds_init_28 : decode prog_3_method_1_code 28 = .ok (.invokevirtual 22, 3) := by decide +kernel
theorem ad_Bonds_init_31 : decode prog_3_method_1_code 31 = .ok (.return_, 1) := by decide +kernel
theorem an_df1 : ∀ j, j < 3 → defaultValue (am_y1 j) = vp_V (an_f0 (am_fk 1)) j := by decide +kernel
theorem ai_Bonds : an_CP am_Bonds_init 1 4 2 768 am_L1 (fun _ => True) := by
  refine an_CP.of (by decide) rfl rfl [.null, .null, .int 0] rfl fun p l e s m args below meth c G A h0 r hO hAe hin hrs hr0 hwf => ?_
  refine an_Dal (pc := 0) ad_Bonds_init_0 hr0 ?_
  refine an_Dobj (pc := 1) ad_Bonds_init_1 (am_t 170 (by decide +kernel) (by decide +kernel)) am_oi am_oc hrs (Nat.le_of_ble_eq_true rfl) (Nat.le_of_ble_eq_true rfl) (Nat.le_of_ble_eq_true rfl) ?_
  refine an_Dal (pc := 4) ad_Bonds_init_4 hr0 ?_
  refine an_Dsi (pc := 5) ad_Bonds_init_5 ⟨by decide, by decide⟩ ?_
  refine an_Dna (pc := 8) (n0 := 0) (K := 14) (n := 384) (t0 := 1) (ty := .int) (atype := .int) (a0 := (384, .inl (fun _ => 0))) rfl (by decide +kernel) ad_Bonds_init_8 rfl am_ai (fun _ => rfl) (an_na14 384) (fun _ => rfl) (by decide) (by decide) (Nat.le_of_ble_eq_true rfl) (Nat.le_of_ble_eq_true rfl) (Nat.le_of_ble_eq_true rfl) fun q0 => ?_
  refine an_Dpf (pc := 10) (fty := .array .int) (fs1 := [.ref q0, .null, .int 0]) hin rfl ad_Bonds_init_10 am_f1_0 am_fl_Bonds_9 (by decide +kernel) rfl rfl (Nat.le_of_ble_eq_true rfl) rfl ?_
  refine an_Dal (pc := 13) ad_Bonds_init_13 hr0 ?_
  refine an_Dsi (pc := 14) ad_Bonds_init_14 ⟨by decide, by decide⟩ ?_
  refine an_Dna (pc := 17) (n0 := 1) (K := 14) (n := 384) (t0 := 1) (ty := .int) (atype := .int) (a0 := (384, .inl (fun _ => 0))) rfl (by decide +kernel) ad_Bonds_init_17 rfl am_ai (fun _ => rfl) (an_na14 384) (fun _ => rfl) (by decide) (by decide) (Nat.le_of_ble_eq_true rfl) (Nat.le_of_ble_eq_true rfl) (Nat.le_of_ble_eq_true rfl) fun q1 => ?_
  refine an_Dpf (pc := 19) (fty := .array .int) (fs1 := [.ref q0, .ref q1, .int 0]) hin rfl ad_Bonds_init_19 am_f1_1 am_fl_Bonds_15 (by decide +kernel) rfl rfl (Nat.le_of_ble_eq_true rfl) rfl ?_
  refine an_Dal (pc := 22) ad_Bonds_init_22 hr0 ?_
  refine an_Dic (pc := 23) ad_Bonds_init_23 ?_
  refine an_Dpn (pc := 24) (fty := .int) (fs1 := [.ref q0, .ref q1, .int (Int32.ofInt 0)]) ad_Bonds_init_24 am_f1_2 am_fl_Bonds_18 (by decide +kernel) rfl rfl (Nat.le_of_ble_eq_true rfl) rfl ?_
  refine an_Dfin (fun _ => 0) (fun _ => am_rg_0 _) (Nat.le_of_ble_eq_true rfl) rfl ?_
  refine an_DY (Y' := am_L1) rfl ?_
  refine an_DW (ls := [some (.inr (.inr 0))]) (st' := []) rfl an_ll1 (fun v hv => by simp at hv) (an_lv1 hrs hwf hr0) ?_
  refine an_aload_n (pc := 27) ad_Bonds_init_27 rfl ?_
  refine an_vV (d := 4) (K := (fun _ => True)) ⟨Nat.le_refl _, Nat.le_refl _, Nat.le_of_ble_eq_true rfl, Nat.le_of_ble_eq_true rfl⟩ (pc := 28) (As := []) (st := []) ad_Bonds_init_28 am_Bonds_begin_w am_ml_Bonds_22 rfl rfl (Nat.le_of_ble_eq_true rfl) am_c1 rfl (bondsBeginK (fun i y hy => by rw [Nat.zero_add]; exact hy) (by omega) fun h1 _ _ _ => trivial) fun h1 z => ?_
  exact an_Wret hAe ad_Bonds_init_31 rfl rfl z (Nat.le_of_ble_eq_true rfl) (Nat.le_of_ble_eq_true rfl)
theorem ad_Book_init_0 : decode prog_4_method_1_code 0 = .ok (.aload_n 0, 1) := by decide +kernel
theorem ad_Book_init_1 : decode prog_4_method_1_code 1 = .ok (.invokespecial 3, 3) := by decide +kernel
theorem ad_Book_init_4 : decode prog_4_method_1_code 4 = .ok (.aload_n 0, 1) := by decide +kernel
theorem ad_Book_init_5 : decode prog_4_method_1_code 5 = .ok (.iconst 0, 1) := by decide +kernel
theorem ad_Book_init_6 : decode prog_4_method_1_code 6 = .ok (.putfield 9, 3) := by decide +kernel
theorem ad_Book_init_9 : decode prog_4_method_1_code 9 = .ok (.aload_n 0, 1) := by decide +kernel
theorem ad_Book_init_10 : decode prog_4_method_1_code 10 = .ok (.iconst 0, 1) := by decide +kernel
theorem ad_Book_init_11 : decode prog_4_method_1_code 11 = .ok (.putfield 15, 3) := by decide +kernel
theorem ad_Book_init_14 : decode prog_4_method_1_code 14 = .ok (.aload_n 0, 1) := by decide +kernel
theorem ad_Book_init_15 : decode prog_4_method_1_code 15 = .ok (.iconst 0, 1) := by decide +kernel
theorem ad_Book_init_16 : decode prog_4_method_1_code 16 = .ok (.putfield 18, 3) := by decide +kernel
theorem ad_Book_init_19 : decode prog_4_method_1_code 19 = .ok (.aload_n 0, 1) := by decide +kernel
theorem ad_Book_init_20 : decode prog_4_method_1_code 20 = .ok (.iconst 0, 1) := by decide +kernel
theorem ad_Book_init_21 : decode prog_4_method_1_code 21 = .ok (.putfield 21, 3) := by decide +kernel
theorem ad_Book_init_24 : decode prog_4_method_1_code 24 = .ok (.aload_n 0, 1) := by decide +kernel
theorem ad_Book_init_25 : decode prog_4_method_1_code 25 = .ok (.bipush 60, 2) := by decide +kernel
theorem ad_Book_init_27 : decode prog_4_method_1_code 27 = .ok (.newarray .int, 2) := by decide +kernel
theorem ad_Book_init_29 : decode prog_4_method_1_code 29 = .ok (.putfield 24, 3) := by decide +kernel
theorem ad_Book_init_32 : decode prog_4_method_1_code 32 = .ok (.aload_n 0, 1) := by decide +kernel
theorem ad_Book_init_33 : decode prog_4_method_1_code 33 = .ok (.bipush 8, 2) := by decide +kernel
theorem ad_Book_init_35 : decode prog_4_method_1_code 35 = .ok (.newarray .int, 2) := by decide +kernel
theorem ad_Book_init_37 : decode prog_4_method_1_code 37 = .ok (.putfield 28, 3) := by decide +kernel
theorem ad_Book_init_40 : decode prog_4_method_1_code 40 = .ok (.aload_n 0, 1) := by decide +kernel
theorem ad_Book_init_41 : decode prog_4_method_1_code 41 = .ok (.bipush 8, 2) := by decide +kernel
theorem ad_Book_init_43 : decode prog_4_method_1_code 43 = .ok (.newarray .int, 2) := by decide +kernel
theorem ad_Book_init_45 : decode prog_4_method_1_code 45 = .ok (.putfield 31, 3) := by decide +kernel
theorem ad_Book_init_48 : decode prog_4_method_1_code 48 = .ok (.aload_n 0, 1) := by decide +kernel
theorem ad_Book_init_49 : decode prog_4_method_1_code 49 = .ok (.bipush 8, 2) := by decide +kernel
theorem ad_Book_init_51 : decode prog_4_method_1_code 51 = .ok (.newarray .int, 2) := by decide +kernel
theorem ad_Book_init_53 : decode prog_4_method_1_code 53 = .ok (.putfield 34, 3) := by decide +kernel
theorem ad_Book_init_56 : decode prog_4_method_1_code 56 = .ok (.aload_n 0, 1) := by decide +kernel
theorem ad_Book_init_57 : decode prog_4_method_1_code 57 = .ok (.new 37, 3) := by decide +kernel
theorem ad_Book_init_60 : decode prog_4_method_1_code 60 = .ok (.dup, 1) := by decide +kernel
theorem ad_Book_init_61 : decode prog_4_method_1_code 61 = .ok (.invokespecial 39, 3) := by decide +kernel
theorem ad_Book_init_64 : decode prog_4_method_1_code 64 = .ok (.putfield 40, 3) := by decide +kernel
theorem ad_Book_init_67 : decode prog_4_method_1_code 67 = .ok (.aload_n 0, 1) := by decide +kernel
theorem ad_Book_init_68 : decode prog_4_method_1_code 68 = .ok (.bipush 48, 2) := by decide +kernel
theorem ad_Book_init_70 : decode prog_4_method_1_code 70 = .ok (.newarray .int, 2) := by decide +kernel
theorem ad_Book_init_72 : decode prog_4_method_1_code 72 = .ok (.putfield 44, 3) := by decide +kernel
theorem ad_Book_init_75 : decode prog_4_method_1_code 75 = .ok (.aload_n 0, 1) := by decide +kernel
theorem ad_Book_init_76 : decode prog_4_method_1_code 76 = .ok (.invokevirtual 47, 3) := by decide +kernel
theorem ad_Book_init_79 : decode prog_4_method_1_code 79 = .ok (.return_, 1) := by decide +kernel
theorem an_df2 : ∀ j, j < 10 → defaultValue (am_y2 j) = vp_V (an_f0 (am_fk 2)) j := by decide +kernel
theorem ai_Book : an_CP am_Book_init 2 6 8 903 am_L2 (fun h => zBk h 0) := by
  refine an_CP.of (by decide) rfl rfl [.int 0, .int 0, .int 0, .int 0, .null, .null, .null, .null, .null, .null] rfl fun p l e s m args below meth c G A h0 r hO hAe hin hrs hr0 hwf => ?_
  refine an_Dal (pc := 0) ad_Book_init_0 hr0 ?_
  refine an_Dobj (pc := 1) ad_Book_init_1 (am_t 164 (by decide +kernel) (by decide +kernel)) am_oi am_oc hrs (Nat.le_of_ble_eq_true rfl) (Nat.le_of_ble_eq_true rfl) (Nat.le_of_ble_eq_true rfl) ?_
  refine an_Dal (pc := 4) ad_Book_init_4 hr0 ?_
  refine an_Dic (pc := 5) ad_Book_init_5 ?_
  refine an_Dpn (pc := 6) (fty := .int) (fs1 := [.int (Int32.ofInt 0), .int 0, .int 0, .int 0, .null, .null, .null, .null, .null, .null]) ad_Book_init_6 am_f2_0 am_fl_Book_9 (by decide +kernel) rfl rfl (Nat.le_of_ble_eq_true rfl) rfl ?_
  refine an_Dal (pc := 9) ad_Book_init_9 hr0 ?_
  refine an_Dic (pc := 10) ad_Book_init_10 ?_
  refine an_Dpn (pc := 11) (fty := .int) (fs1 := [.int (Int32.ofInt 0), .int (Int32.ofInt 0), .int 0, .int 0, .null, .null, .null, .null, .null, .null]) ad_Book_init_11 am_f2_1 am_fl_Book_15 (by decide +kernel) rfl rfl (Nat.le_of_ble_eq_true rfl) rfl ?_
  refine an_Dal (pc := 14) ad_Book_init_14 hr0 ?_
  refine an_Dic (pc := 15) ad_Book_init_15 ?_
  refine an_Dpn (pc := 16) (fty := .int) (fs1 := [.int (Int32.ofInt 0), .int (Int32.ofInt 0), .int (Int32.ofInt 0), .int 0, .null, .null, .null, .null, .null, .null]) ad_Book_init_16 am_f2_2 am_fl_Book_18 (by decide +kernel) rfl rfl (Nat.le_of_ble_eq_true rfl) rfl ?_
  refine an_Dal (pc := 19) ad_Book_init_19 hr0 ?_
  refine an_Dic (pc := 20) ad_Book_init_20 ?_
  refine an_Dpn (pc := 21) (fty := .int) (fs1 := [.int (Int32.ofInt 0), .int (Int32.ofInt 0), .int (Int32.ofInt 0), .int (Int32.ofInt 0), .null, .null, .null, .null, .null, .null]) ad_Book_init_21 am_f2_3 am_fl_Book_21 (by decide +kernel) rfl rfl (Nat.le_of_ble_eq_true rfl) rfl ?_
  refine an_Dal (pc := 24) ad_Book_init_24 hr0 ?_
  refine an_Dbi (pc := 25) ad_Book_init_25 ⟨by decide, by decide⟩ ?_
  refine an_Dna (pc := 27) (n0 := 0) (K := 14) (n := 60) (t0 := 1) (ty := .int) (atype := .int) (a0 := (60, .inl (fun _ => 0))) rfl (by decide +kernel) ad_Book_init_27 rfl am_ai (fun _ => rfl) (an_na14 60) (fun _ => rfl) (by decide) (by decide) (Nat.le_of_ble_eq_true rfl) (Nat.le_of_ble_eq_true rfl) (Nat.le_of_ble_eq_true rfl) fun q0 => ?_
  refine an_Dpf (pc := 29) (fty := .array .int) (fs1 := [.int (Int32.ofInt 0), .int (Int32.ofInt 0), .int (Int32.ofInt 0), .int (Int32.ofInt 0), .ref q0, .null, .null, .null, .null, .null]) hin rfl ad_Book_init_29 am_f2_4 am_fl_Book_24 (by decide +kernel) rfl rfl (Nat.le_of_ble_eq_true rfl) rfl ?_
  refine an_Dal (pc := 32) ad_Book_init_32 hr0 ?_
  refine an_Dbi (pc := 33) ad_Book_init_33 ⟨by decide, by decide⟩ ?_
  refine an_Dna (pc := 35) (n0 := 1) (K := 14) (n := 8) (t0 := 1) (ty := .int) (atype := .int) (a0 := (8, .inl (fun _ => 0))) rfl (by decide +kernel) ad_Book_init_35 rfl am_ai (fun _ => rfl) (an_na14 8) (fun _ => rfl) (by decide) (by decide) (Nat.le_of_ble_eq_true rfl) (Nat.le_of_ble_eq_true rfl) (Nat.le_of_ble_eq_true rfl) fun q1 => ?_
  refine an_Dpf (pc := 37) (fty := .array .int) (fs1 := [.int (Int32.ofInt 0), .int (Int32.ofInt 0), .int (Int32.ofInt 0), .int (Int32.ofInt 0), .ref q0, .ref q1, .null, .null, .null, .null]) hin rfl ad_Book_init_37 am_f2_5 am_fl_Book_28 (by decide +kernel) rfl rfl (Nat.le_of_ble_eq_true rfl) rfl ?_
  refine an_Dal (pc := 40) ad_Book_init_40 hr0 ?_
  refine an_Dbi (pc := 41) ad_Book_init_41 ⟨by decide, by decide⟩ ?_
  refine an_Dna (pc := 43) (n0 := 2) (K := 14) (n := 8) (t0 := 1) (ty := .int) (atype := .int) (a0 := (8, .inl (fun _ => 0))) rfl (by decide +kernel) ad_Book_init_43 rfl am_ai (fun _ => rfl) (an_na14 8) (fun _ => rfl) (by decide) (by decide) (Nat.le_of_ble_eq_true rfl) (Nat.le_of_ble_eq_true rfl) (Nat.le_of_ble_eq_true rfl) fun q2 => ?_
  refine an_Dpf (pc := 45) (fty := .array .int) (fs1 := [.int (Int32.ofInt 0), .int (Int32.ofInt 0), .int (Int32.ofInt 0), .int (Int32.ofInt 0), .ref q0, .ref q1, .ref q2, .null, .null, .null]) hin rfl ad_Book_init_45 am_f2_6 am_fl_Book_31 (by decide +kernel) rfl rfl (Nat.le_of_ble_eq_true rfl) rfl ?_
  refine an_Dal (pc := 48) ad_Book_init_48 hr0 ?_
  refine an_Dbi (pc := 49) ad_Book_init_49 ⟨by decide, by decide⟩ ?_
  refine an_Dna (pc := 51) (n0 := 3) (K := 14) (n := 8) (t0 := 1) (ty := .int) (atype := .int) (a0 := (8, .inl (fun _ => 0))) rfl (by decide +kernel) ad_Book_init_51 rfl am_ai (fun _ => rfl) (an_na14 8) (fun _ => rfl) (by decide) (by decide) (Nat.le_of_ble_eq_true rfl) (Nat.le_of_ble_eq_true rfl) (Nat.le_of_ble_eq_true rfl) fun q3 => ?_
  refine an_Dpf (pc := 53) (fty := .array .int) (fs1 := [.int (Int32.ofInt 0), .int (Int32.ofInt 0), .int (Int32.ofInt 0), .int (Int32.ofInt 0), .ref q0, .ref q1, .ref q2, .ref q3, .null, .null]) hin rfl ad_Book_init_53 am_f2_7 am_fl_Book_34 (by decide +kernel) rfl rfl (Nat.le_of_ble_eq_true rfl) rfl ?_
  refine an_Dal (pc := 56) ad_Book_init_56 hr0 ?_
  refine an_Dnew (pc := 57) (n0 := 4) (T := am_T1) (ty := am_y1) hO ai_Bonds rfl (by decide +kernel) ad_Book_init_57 ad_Book_init_60 ad_Book_init_61 rfl am_uw1 am_p1 an_df1 (am_t 165 (by decide +kernel) (by decide +kernel)) (am_t 166 (by decide +kernel) (by decide +kernel)) (am_t 6 (by decide +kernel) (by decide +kernel)) (am_t 169 (by decide +kernel) (by decide +kernel)) rfl (Or.inl (am_t 167 (by decide +kernel) (by decide +kernel))) (am_t 168 (by decide +kernel) (by decide +kernel)) rfl ⟨by decide, by decide, by decide +kernel⟩ (Nat.le_of_ble_eq_true rfl) (Nat.le_of_ble_eq_true rfl) (Nat.le_of_ble_eq_true rfl) (Nat.le_of_ble_eq_true rfl) (Nat.le_of_ble_eq_true rfl) hrs (Nat.le_of_ble_eq_true rfl) fun a4 g4 z4 => ?_
  refine an_Dpf (pc := 64) (fty := .object "NightHelp$Bonds") (fs1 := [.int (Int32.ofInt 0), .int (Int32.ofInt 0), .int (Int32.ofInt 0), .int (Int32.ofInt 0), .ref q0, .ref q1, .ref q2, .ref q3, .ref (a4 0), .null]) hin rfl ad_Book_init_64 am_f2_8 am_fl_Book_40 (by decide +kernel) rfl rfl (Nat.le_of_ble_eq_true rfl) rfl ?_
  refine an_Dal (pc := 67) ad_Book_init_67 hr0 ?_
  refine an_Dbi (pc := 68) ad_Book_init_68 ⟨by decide, by decide⟩ ?_
  refine an_Dna (pc := 70) (n0 := 7) (K := 14) (n := 48) (t0 := 1) (ty := .int) (atype := .int) (a0 := (48, .inl (fun _ => 0))) rfl (by decide +kernel) ad_Book_init_70 rfl am_ai (fun _ => rfl) (an_na14 48) (fun _ => rfl) (by decide) (by decide) (Nat.le_of_ble_eq_true rfl) (Nat.le_of_ble_eq_true rfl) (Nat.le_of_ble_eq_true rfl) fun q5 => ?_
  refine an_Dpf (pc := 72) (fty := .array .int) (fs1 := [.int (Int32.ofInt 0), .int (Int32.ofInt 0), .int (Int32.ofInt 0), .int (Int32.ofInt 0), .ref q0, .ref q1, .ref q2, .ref q3, .ref (a4 0), .ref q5]) hin rfl ad_Book_init_72 am_f2_9 am_fl_Book_44 (by decide +kernel) rfl rfl (Nat.le_of_ble_eq_true rfl) rfl ?_
  refine an_Dfin (fun _ => 0) (fun _ => am_rg_0 _) (Nat.le_of_ble_eq_true rfl) rfl ?_
  refine an_DY (Y' := am_L2) rfl ?_
  refine an_DW (ls := [some (.inr (.inr 0))]) (st' := []) rfl an_ll1 (fun v hv => by simp at hv) (an_lv1 hrs hwf hr0) ?_
  refine an_aload_n (pc := 75) ad_Book_init_75 rfl ?_
  refine an_vV (d := 6) (K := (fun h => zBk h 0)) ⟨Nat.le_refl _, Nat.le_refl _, Nat.le_of_ble_eq_true rfl, Nat.le_of_ble_eq_true rfl⟩ (pc := 76) (As := []) (st := []) ad_Book_init_76 am_Book_begin_w am_ml_Book_47 rfl rfl (Nat.le_of_ble_eq_true rfl) am_c2 rfl (am_kV.of (ac_Book_begin (d := 0) (fun i y hy => by rw [Nat.zero_add]; exact hy) an_R0w) (by omega) fun h1 _ z => ⟨z.1, z.2.1⟩) fun h1 z => ?_
  exact an_Wret hAe ad_Book_init_79 rfl rfl z (Nat.le_of_ble_eq_true rfl) (Nat.le_of_ble_eq_true rfl)
theorem ad_Tokens_init_0 : decode prog_10_method_1_code 0 = .ok (.aload_n 0, 1) := by decide +kernel
theorem ad_Tokens_init_1 : decode prog_10_method_1_code 1 = .ok (.invokespecial 3, 3) := by decide +kernel
theorem ad_Tokens_init_4 : decode prog_10_method_1_code 4 = .ok (.aload_n 0, 1) := by decide +kernel
theorem ad_Tokens_init_5 : decode prog_10_method_1_code 5 = .ok (.bipush 32, 2) := by decide +kernel
theorem ad_Tokens_init_7 : decode prog_10_method_1_code 7 = .ok (.putfield 11, 3) := by decide +kernel
theorem ad_Tokens_init_10 : decode prog_10_method_1_code 10 = .ok (.aload_n 0, 1) := by decide +kernel
theorem ad_Tokens_init_11 : decode prog_10_method_1_code 11 = .ok (.iconst 0, 1) := by decide +kernel
theorem ad_Tokens_init_12 : decode prog_10_method_1_code 12 = .ok (.putfield 15, 3) := by decide +kernel
theorem ad_Tokens_init_15 : decode prog_10_method_1_code 15 = .ok (.aload_n 0, 1) := by decide +kernel
theorem ad_Tokens_init_16 : decode prog_10_method_1_code 16 = .ok (.iconst 0, 1) := by decide +kernel
theorem ad_Tokens_init_17 : decode prog_10_method_1_code 17 = .ok (.putfield 18, 3) := by decide +kernel
theorem ad_Tokens_init_20 : decode prog_10_method_1_code 20 = .ok (.aload_n 0, 1) := by decide +kernel
theorem ad_Tokens_init_21 : decode prog_10_method_1_code 21 = .ok (.iconst 0, 1) := by decide +kernel
theorem ad_Tokens_init_22 : decode prog_10_method_1_code 22 = .ok (.putfield 21, 3) := by decide +kernel
theorem ad_Tokens_init_25 : decode prog_10_method_1_code 25 = .ok (.aload_n 0, 1) := by decide +kernel
theorem ad_Tokens_init_26 : decode prog_10_method_1_code 26 = .ok (.iconst 0, 1) := by decide +kernel
theorem ad_Tokens_init_27 : decode prog_10_method_1_code 27 = .ok (.putfield 24, 3) := by decide +kernel
theorem ad_Tokens_init_30 : decode prog_10_method_1_code 30 = .ok (.aload_n 0, 1) := by decide +kernel
theorem ad_Tokens_init_31 : decode prog_10_method_1_code 31 = .ok (.iconst 0, 1) := by decide +kernel
theorem ad_Tokens_init_32 : decode prog_10_method_1_code 32 = .ok (.putfield 27, 3) := by decide +kernel
theorem ad_Tokens_init_35 : decode prog_10_method_1_code 35 = .ok (.aload_n 0, 1) := by decide +kernel
theorem ad_Tokens_init_36 : decode prog_10_method_1_code 36 = .ok (.sipush 1000, 3) := by decide +kernel
theorem ad_Tokens_init_39 : decode prog_10_method_1_code 39 = .ok (.newarray .int, 2) := by decide +kernel
theorem ad_Tokens_init_41 : decode prog_10_method_1_code 41 = .ok (.putfield 30, 3) := by decide +kernel
theorem ad_Tokens_init_44 : decode prog_10_method_1_code 44 = .ok (.aload_n 0, 1) := by decide +kernel
theorem ad_Tokens_init_45 : decode prog_10_method_1_code 45 = .ok (.sipush 1000, 3) := by decide +kernel
theorem ad_Tokens_init_48 : decode prog_10_method_1_code 48 = .ok (.newarray .int, 2) := by decide +kernel
theorem ad_Tokens_init_50 : decode prog_10_method_1_code 50 = .ok (.putfield 34, 3) := by decide +kernel
theorem ad_Tokens_init_53 : decode prog_10_method_1_code 53 = .ok (.aload_n 0, 1) := by decide +kernel
theorem ad_Tokens_init_54 : decode prog_10_method_1_code 54 = .ok (.sipush 1000, 3) := by decide +kernel
theorem ad_Tokens_init_57 : decode prog_10_method_1_code 57 = .ok (.newarray .int, 2) := by decide +kernel
theorem ad_Tokens_init_59 : decode prog_10_method_1_code 59 = .ok (.putfield 37, 3) := by decide +kernel
theorem ad_Tokens_init_62 : decode prog_10_method_1_code 62 = .ok (.aload_n 0, 1) := by decide +kernel
theorem ad_Tokens_init_63 : decode prog_10_method_1_code 63 = .ok (.iconst 0, 1) := by decide +kernel
theorem ad_Tokens_init_64 : decode prog_10_method_1_code 64 = .ok (.putfield 40, 3) := by decide +kernel
theorem ad_Tokens_init_67 : decode prog_10_method_1_code 67 = .ok (.aload_n 0, 1) := by decide +kernel
theorem ad_Tokens_init_68 : decode prog_10_method_1_code 68 = .ok (.iconst (-1), 1) := by decide +kernel
theorem ad_Tokens_init_69 : decode prog_10_method_1_code 69 = .ok (.putfield 43, 3) := by decide +kernel
theorem ad_Tokens_init_72 : decode prog_10_method_1_code 72 = .ok (.aload_n 0, 1) := by decide +kernel
theorem ad_Tokens_init_73 : decode prog_10_method_1_code 73 = .ok (.iconst 0, 1) := by decide +kernel
theorem ad_Tokens_init_74 : decode prog_10_method_1_code 74 = .ok (.putfield 46, 3) := by decide +kernel
theorem ad_Tokens_init_77 : decode prog_10_method_1_code 77 = .ok (.return_, 1) := by decide +kernel
theorem an_df8 : ∀ j, j < 12 → defaultValue (am_y8 j) = vp_V (an_f0 (am_fk 8)) j := by decide +kernel
theorem ai_Tokens : an_CP am_Tokens_init 8 2 3 3000 am_L8 (fun _ => True) := by
  refine an_CP.of (by decide) rfl rfl [.int 0, .int 0, .int 0, .int 0, .int 0, .int 0, .null, .null, .null, .int 0, .int 0, .int 0] rfl fun p l e s m args below meth c G A h0 r hO hAe hin hrs hr0 hwf => ?_
  refine an_Dal (pc := 0) ad_Tokens_init_0 hr0 ?_
  refine an_Dobj (pc := 1) ad_Tokens_init_1 (am_t 279 (by decide +kernel) (by decide +kernel)) am_oi am_oc hrs (Nat.le_of_ble_eq_true rfl) (Nat.le_of_ble_eq_true rfl) (Nat.le_of_ble_eq_true rfl) ?_
  refine an_Dal (pc := 4) ad_Tokens_init_4 hr0 ?_
  refine an_Dbi (pc := 5) ad_Tokens_init_5 ⟨by decide, by decide⟩ ?_
  refine an_Dpn (pc := 7) (fty := .int) (fs1 := [.int (Int32.ofInt 32), .int 0, .int 0, .int 0, .int 0, .int 0, .null, .null, .null, .int 0, .int 0, .int 0]) ad_Tokens_init_7 am_f8_0 am_fl_Tokens_11 (by decide +kernel) rfl rfl (Nat.le_of_ble_eq_true rfl) rfl ?_
  refine an_Dal (pc := 10) ad_Tokens_init_10 hr0 ?_
  refine an_Dic (pc := 11) ad_Tokens_init_11 ?_
  refine an_Dpn (pc := 12) (fty := .int) (fs1 := [.int (Int32.ofInt 32), .int (Int32.ofInt 0), .int 0, .int 0, .int 0, .int 0, .null, .null, .null, .int 0, .int 0, .int 0]) ad_Tokens_init_12 am_f8_1 am_fl_Tokens_15 (by decide +kernel) rfl rfl (Nat.le_of_ble_eq_true rfl) rfl ?_
  refine an_Dal (pc := 15) ad_Tokens_init_15 hr0 ?_
  refine an_Dic (pc := 16) ad_Tokens_init_16 ?_
  refine an_Dpn (pc := 17) (fty := .int) (fs1 := [.int (Int32.ofInt 32), .int (Int32.ofInt 0), .int (Int32.ofInt 0), .int 0, .int 0, .int 0, .null, .null, .null, .int 0, .int 0, .int 0]) ad_Tokens_init_17 am_f8_2 am_fl_Tokens_18 (by decide +kernel) rfl rfl (Nat.le_of_ble_eq_true rfl) rfl ?_
  refine an_Dal (pc := 20) ad_Tokens_init_20 hr0 ?_
  refine an_Dic (pc := 21) ad_Tokens_init_21 ?_
  refine an_Dpn (pc := 22) (fty := .int) (fs1 := [.int (Int32.ofInt 32), .int (Int32.ofInt 0), .int (Int32.ofInt 0), .int (Int32.ofInt 0), .int 0, .int 0, .null, .null, .null, .int 0, .int 0, .int 0]) ad_Tokens_init_22 am_f8_3 am_fl_Tokens_21 (by decide +kernel) rfl rfl (Nat.le_of_ble_eq_true rfl) rfl ?_
  refine an_Dal (pc := 25) ad_Tokens_init_25 hr0 ?_
  refine an_Dic (pc := 26) ad_Tokens_init_26 ?_
  refine an_Dpn (pc := 27) (fty := .int) (fs1 := [.int (Int32.ofInt 32), .int (Int32.ofInt 0), .int (Int32.ofInt 0), .int (Int32.ofInt 0), .int (Int32.ofInt 0), .int 0, .null, .null, .null, .int 0, .int 0, .int 0]) ad_Tokens_init_27 am_f8_4 am_fl_Tokens_24 (by decide +kernel) rfl rfl (Nat.le_of_ble_eq_true rfl) rfl ?_
  refine an_Dal (pc := 30) ad_Tokens_init_30 hr0 ?_
  refine an_Dic (pc := 31) ad_Tokens_init_31 ?_
  refine an_Dpn (pc := 32) (fty := .int) (fs1 := [.int (Int32.ofInt 32), .int (Int32.ofInt 0), .int (Int32.ofInt 0), .int (Int32.ofInt 0), .int (Int32.ofInt 0), .int (Int32.ofInt 0), .null, .null, .null, .int 0, .int 0, .int 0]) ad_Tokens_init_32 am_f8_5 am_fl_Tokens_27 (by decide +kernel) rfl rfl (Nat.le_of_ble_eq_true rfl) rfl ?_
  refine an_Dal (pc := 35) ad_Tokens_init_35 hr0 ?_
  refine an_Dsi (pc := 36) ad_Tokens_init_36 ⟨by decide, by decide⟩ ?_
  refine an_Dna (pc := 39) (n0 := 0) (K := 14) (n := 1000) (t0 := 1) (ty := .int) (atype := .int) (a0 := (1000, .inl (fun _ => 0))) rfl (by decide +kernel) ad_Tokens_init_39 rfl am_ai (fun _ => rfl) (an_na14 1000) (fun _ => rfl) (by decide) (by decide) (Nat.le_of_ble_eq_true rfl) (Nat.le_of_ble_eq_true rfl) (Nat.le_of_ble_eq_true rfl) fun q0 => ?_
  refine an_Dpf (pc := 41) (fty := .array .int) (fs1 := [.int (Int32.ofInt 32), .int (Int32.ofInt 0), .int (Int32.ofInt 0), .int (Int32.ofInt 0), .int (Int32.ofInt 0), .int (Int32.ofInt 0), .ref q0, .null, .null, .int 0, .int 0, .int 0]) hin rfl ad_Tokens_init_41 am_f8_6 am_fl_Tokens_30 (by decide +kernel) rfl rfl (Nat.le_of_ble_eq_true rfl) rfl ?_
  refine an_Dal (pc := 44) ad_Tokens_init_44 hr0 ?_
  refine an_Dsi (pc := 45) ad_Tokens_init_45 ⟨by decide, by decide⟩ ?_
  refine an_Dna (pc := 48) (n0 := 1) (K := 14) (n := 1000) (t0 := 1) (ty := .int) (atype := .int) (a0 := (1000, .inl (fun _ => 0))) rfl (by decide +kernel) ad_Tokens_init_48 rfl am_ai (fun _ => rfl) (an_na14 1000) (fun _ => rfl) (by decide) (by decide) (Nat.le_of_ble_eq_true rfl) (Nat.le_of_ble_eq_true rfl) (Nat.le_of_ble_eq_true rfl) fun q1 => ?_
  refine an_Dpf (pc := 50) (fty := .array .int) (fs1 := [.int (Int32.ofInt 32), .int (Int32.ofInt 0), .int (Int32.ofInt 0), .int (Int32.ofInt 0), .int (Int32.ofInt 0), .int (Int32.ofInt 0), .ref q0, .ref q1, .null, .int 0, .int 0, .int 0]) hin rfl ad_Tokens_init_50 am_f8_7 am_fl_Tokens_34 (by decide +kernel) rfl rfl (Nat.le_of_ble_eq_true rfl) rfl ?_
  refine an_Dal (pc := 53) ad_Tokens_init_53 hr0 ?_
  refine an_Dsi (pc := 54) ad_Tokens_init_54 ⟨by decide, by decide⟩ ?_
  refine an_Dna (pc := 57) (n0 := 2) (K := 14) (n := 1000) (t0 := 1) (ty := .int) (atype := .int) (a0 := (1000, .inl (fun _ => 0))) rfl (by decide +kernel) ad_Tokens_init_57 rfl am_ai (fun _ => rfl) (an_na14 1000) (fun _ => rfl) (by decide) (by decide) (Nat.le_of_ble_eq_true rfl) (Nat.le_of_ble_eq_true rfl) (Nat.le_of_ble_eq_true rfl) fun q2 => ?_
  refine an_Dpf (pc := 59) (fty := .array .int) (fs1 := [.int (Int32.ofInt 32), .int (Int32.ofInt 0), .int (Int32.ofInt 0), .int (Int32.ofInt 0), .int (Int32.ofInt 0), .int (Int32.ofInt 0), .ref q0, .ref q1, .ref q2, .int 0, .int 0, .int 0]) hin rfl ad_Tokens_init_59 am_f8_8 am_fl_Tokens_37 (by decide +kernel) rfl rfl (Nat.le_of_ble_eq_true rfl) rfl ?_
  refine an_Dal (pc := 62) ad_Tokens_init_62 hr0 ?_
  refine an_Dic (pc := 63) ad_Tokens_init_63 ?_
  refine an_Dpn (pc := 64) (fty := .int) (fs1 := [.int (Int32.ofInt 32), .int (Int32.ofInt 0), .int (Int32.ofInt 0), .int (Int32.ofInt 0), .int (Int32.ofInt 0), .int (Int32.ofInt 0), .ref q0, .ref q1, .ref q2, .int (Int32.ofInt 0), .int 0, .int 0]) ad_Tokens_init_64 am_f8_9 am_fl_Tokens_40 (by decide +kernel) rfl rfl (Nat.le_of_ble_eq_true rfl) rfl ?_
  refine an_Dal (pc := 67) ad_Tokens_init_67 hr0 ?_
  refine an_Dic (pc := 68) ad_Tokens_init_68 ?_
  refine an_Dpn (pc := 69) (fty := .int) (fs1 := [.int (Int32.ofInt 32), .int (Int32.ofInt 0), .int (Int32.ofInt 0), .int (Int32.ofInt 0), .int (Int32.ofInt 0), .int (Int32.ofInt 0), .ref q0, .ref q1, .ref q2, .int (Int32.ofInt 0), .int (Int32.ofInt (-1)), .int 0]) ad_Tokens_init_69 am_f8_10 am_fl_Tokens_43 (by decide +kernel) rfl rfl (Nat.le_of_ble_eq_true rfl) rfl ?_
  refine an_Dal (pc := 72) ad_Tokens_init_72 hr0 ?_
  refine an_Dic (pc := 73) ad_Tokens_init_73 ?_
  refine an_Dpn (pc := 74) (fty := .int) (fs1 := [.int (Int32.ofInt 32), .int (Int32.ofInt 0), .int (Int32.ofInt 0), .int (Int32.ofInt 0), .int (Int32.ofInt 0), .int (Int32.ofInt 0), .ref q0, .ref q1, .ref q2, .int (Int32.ofInt 0), .int (Int32.ofInt (-1)), .int (Int32.ofInt 0)]) ad_Tokens_init_74 am_f8_11 am_fl_Tokens_46 (by decide +kernel) rfl rfl (Nat.le_of_ble_eq_true rfl) rfl ?_
  refine an_Dfin (fun j => if j = 0 then 32 else if j = 10 then (-1) else 0) (fun j => ?_) (Nat.le_of_ble_eq_true rfl) rfl ?_
  · show am_rg _ (if j = 0 then 32 else if j = 10 then (-1) else 0)
    by_cases q0_ : j = 0
    · subst q0_
      exact am_0rg ⟨by decide, by decide⟩
    by_cases q1_ : j = 10
    · subst q1_
      exact am_0rg ⟨by decide, by decide⟩
    rw [if_neg q0_, if_neg q1_]
    exact am_rg_0 _
  refine an_DY (Y' := am_L8) rfl ?_
  exact an_Dret hAe ad_Tokens_init_77 rfl rfl trivial (Nat.le_of_ble_eq_true rfl) (Nat.le_of_ble_eq_true rfl)
theorem ad_Village_init_0 : decode prog_11_method_1_code 0 = .ok (.aload_n 0, 1) := by decide +kernel
theorem ad_Village_init_1 : decode prog_11_method_1_code 1 = .ok (.invokespecial 3, 3) := by decide +kernel
theorem ad_Village_init_4 : decode prog_11_method_1_code 4 = .ok (.aload_n 0, 1) := by decide +kernel
theorem ad_Village_init_5 : decode prog_11_method_1_code 5 = .ok (.bipush 6, 2) := by decide +kernel
theorem ad_Village_init_7 : decode prog_11_method_1_code 7 = .ok (.newarray .int, 2) := by decide +kernel
theorem ad_Village_init_9 : decode prog_11_method_1_code 9 = .ok (.putfield 9, 3) := by decide +kernel
theorem ad_Village_init_12 : decode prog_11_method_1_code 12 = .ok (.aload_n 0, 1) := by decide +kernel
theorem ad_Village_init_13 : decode prog_11_method_1_code 13 = .ok (.bipush 6, 2) := by decide +kernel
theorem ad_Village_init_15 : decode prog_11_method_1_code 15 = .ok (.newarray .int, 2) := by decide +kernel
theorem ad_Village_init_17 : decode prog_11_method_1_code 17 = .ok (.putfield 15, 3) := by decide +kernel
theorem ad_Village_init_20 : decode prog_11_method_1_code 20 = .ok (.aload_n 0, 1) := by decide +kernel
theorem ad_Village_init_21 : decode prog_11_method_1_code 21 = .ok (.bipush 6, 2) := by decide +kernel
theorem ad_Village_init_23 : decode prog_11_method_1_code 23 = .ok (.newarray .int, 2) := by decide +kernel
theorem ad_Village_init_25 : decode prog_11_method_1_code 25 = .ok (.putfield 18, 3) := by decide +kernel
theorem ad_Village_init_28 : decode prog_11_method_1_code 28 = .ok (.aload_n 0, 1) := by decide +kernel
theorem ad_Village_init_29 : decode prog_11_method_1_code 29 = .ok (.bipush 8, 2) := by decide +kernel
theorem ad_Village_init_31 : decode prog_11_method_1_code 31 = .ok (.newarray .int, 2) := by decide +kernel
theorem ad_Village_init_33 : decode prog_11_method_1_code 33 = .ok (.putfield 21, 3) := by decide +kernel
theorem ad_Village_init_36 : decode prog_11_method_1_code 36 = .ok (.aload_n 0, 1) := by decide +kernel
theorem ad_Village_init_37 : decode prog_11_method_1_code 37 = .ok (.bipush 8, 2) := by decide +kernel
theorem ad_Village_init_39 : decode prog_11_method_1_code 39 = .ok (.newarray .int, 2) := by decide +kernel
theorem ad_Village_init_41 : decode prog_11_method_1_code 41 = .ok (.putfield 24, 3) := by decide +kernel
theorem ad_Village_init_44 : decode prog_11_method_1_code 44 = .ok (.aload_n 0, 1) := by decide +kernel
theorem ad_Village_init_45 : decode prog_11_method_1_code 45 = .ok (.bipush 48, 2) := by decide +kernel
theorem ad_Village_init_47 : decode prog_11_method_1_code 47 = .ok (.newarray .int, 2) := by decide +kernel
theorem ad_Village_init_49 : decode prog_11_method_1_code 49 = .ok (.putfield 27, 3) := by decide +kernel
theorem ad_Village_init_52 : decode prog_11_method_1_code 52 = .ok (.aload_n 0, 1) := by decide +kernel
theorem ad_Village_init_53 : decode prog_11_method_1_code 53 = .ok (.bipush 64, 2) := by decide +kernel
theorem ad_Village_init_55 : decode prog_11_method_1_code 55 = .ok (.newarray .int, 2) := by decide +kernel
theorem ad_Village_init_57 : decode prog_11_method_1_code 57 = .ok (.putfield 30, 3) := by decide +kernel
theorem ad_Village_init_60 : decode prog_11_method_1_code 60 = .ok (.aload_n 0, 1) := by decide +kernel
theorem ad_Village_init_61 : decode prog_11_method_1_code 61 = .ok (.bipush 64, 2) := by decide +kernel
theorem ad_Village_init_63 : decode prog_11_method_1_code 63 = .ok (.newarray .int, 2) := by decide +kernel
theorem ad_Village_init_65 : decode prog_11_method_1_code 65 = .ok (.putfield 33, 3) := by decide +kernel
theorem ad_Village_init_68 : decode prog_11_method_1_code 68 = .ok (.aload_n 0, 1) := by decide +kernel
theorem ad_Village_init_69 : decode prog_11_method_1_code 69 = .ok (.bipush 48, 2) := by decide +kernel
theorem ad_Village_init_71 : decode prog_11_method_1_code 71 = .ok (.newarray .int, 2) := by decide +kernel
theorem ad_Village_init_73 : decode prog_11_method_1_code 73 = .ok (.putfield 36, 3) := by decide +kernel
theorem ad_Village_init_76 : decode prog_11_method_1_code 76 = .ok (.aload_n 0, 1) := by decide +kernel
theorem ad_Village_init_77 : decode prog_11_method_1_code 77 = .ok (.bipush 48, 2) := by decide +kernel
theorem ad_Village_init_79 : decode prog_11_method_1_code 79 = .ok (.newarray .int, 2) := by decide +kernel
theorem ad_Village_init_81 : decode prog_11_method_1_code 81 = .ok (.putfield 39, 3) := by decide +kernel
theorem ad_Village_init_84 : decode prog_11_method_1_code 84 = .ok (.aload_n 0, 1) := by decide +kernel
theorem ad_Village_init_85 : decode prog_11_method_1_code 85 = .ok (.invokevirtual 42, 3) := by decide +kernel
theorem ad_Village_init_88 : decode prog_11_method_1_code 88 = .ok (.return_, 1) := by decide +kernel
theorem an_df9 : ∀ j, j < 17 → defaultValue (am_y9 j) = vp_V (an_f0 (am_fk 9)) j := by decide +kernel
theorem ai_Village : an_CP am_Village_init 9 4 10 306 am_L9 (fun h => zVl h 0) := by
  refine an_CP.of (by decide) rfl rfl [.int 0, .int 0, .int 0, .int 0, .int 0, .int 0, .int 0, .null, .null, .null, .null, .null, .null, .null, .null, .null, .null] rfl fun p l e s m args below meth c G A h0 r hO hAe hin hrs hr0 hwf => ?_
  refine an_Dal (pc := 0) ad_Village_init_0 hr0 ?_
  refine an_Dobj (pc := 1) ad_Village_init_1 (am_t 44 (by decide +kernel) (by decide +kernel)) am_oi am_oc hrs (Nat.le_of_ble_eq_true rfl) (Nat.le_of_ble_eq_true rfl) (Nat.le_of_ble_eq_true rfl) ?_
  refine an_Dal (pc := 4) ad_Village_init_4 hr0 ?_
  refine an_Dbi (pc := 5) ad_Village_init_5 ⟨by decide, by decide⟩ ?_
  refine an_Dna (pc := 7) (n0 := 0) (K := 14) (n := 6) (t0 := 1) (ty := .int) (atype := .int) (a0 := (6, .inl (fun _ => 0))) rfl (by decide +kernel) ad_Village_init_7 rfl am_ai (fun _ => rfl) (an_na14 6) (fun _ => rfl) (by decide) (by decide) (Nat.le_of_ble_eq_true rfl) (Nat.le_of_ble_eq_true rfl) (Nat.le_of_ble_eq_true rfl) fun q0 => ?_
  refine an_Dpf (pc := 9) (fty := .array .int) (fs1 := [.int 0, .int 0, .int 0, .int 0, .int 0, .int 0, .int 0, .ref q0, .null, .null, .null, .null, .null, .null, .null, .null, .null]) hin rfl ad_Village_init_9 am_f9_7 am_fl_Village_9 (by decide +kernel) rfl rfl (Nat.le_of_ble_eq_true rfl) rfl ?_
  refine an_Dal (pc := 12) ad_Village_init_12 hr0 ?_
  refine an_Dbi (pc := 13) ad_Village_init_13 ⟨by decide, by decide⟩ ?_
  refine an_Dna (pc := 15) (n0 := 1) (K := 14) (n := 6) (t0 := 1) (ty := .int) (atype := .int) (a0 := (6, .inl (fun _ => 0))) rfl (by decide +kernel) ad_Village_init_15 rfl am_ai (fun _ => rfl) (an_na14 6) (fun _ => rfl) (by decide) (by decide) (Nat.le_of_ble_eq_true rfl) (Nat.le_of_ble_eq_true rfl) (Nat.le_of_ble_eq_true rfl) fun q1 => ?_
  refine an_Dpf (pc := 17) (fty := .array .int) (fs1 := [.int 0, .int 0, .int 0, .int 0, .int 0, .int 0, .int 0, .ref q0, .ref q1, .null, .null, .null, .null, .null, .null, .null, .null]) hin rfl ad_Village_init_17 am_f9_8 am_fl_Village_15 (by decide +kernel) rfl rfl (Nat.le_of_ble_eq_true rfl) rfl ?_
  refine an_Dal (pc := 20) ad_Village_init_20 hr0 ?_
  refine an_Dbi (pc := 21) ad_Village_init_21 ⟨by decide, by decide⟩ ?_
  refine an_Dna (pc := 23) (n0 := 2) (K := 14) (n := 6) (t0 := 1) (ty := .int) (atype := .int) (a0 := (6, .inl (fun _ => 0))) rfl (by decide +kernel) ad_Village_init_23 rfl am_ai (fun _ => rfl) (an_na14 6) (fun _ => rfl) (by decide) (by decide) (Nat.le_of_ble_eq_true rfl) (Nat.le_of_ble_eq_true rfl) (Nat.le_of_ble_eq_true rfl) fun q2 => ?_
  refine an_Dpf (pc := 25) (fty := .array .int) (fs1 := [.int 0, .int 0, .int 0, .int 0, .int 0, .int 0, .int 0, .ref q0, .ref q1, .ref q2, .null, .null, .null, .null, .null, .null, .null]) hin rfl ad_Village_init_25 am_f9_9 am_fl_Village_18 (by decide +kernel) rfl rfl (Nat.le_of_ble_eq_true rfl) rfl ?_
  refine an_Dal (pc := 28) ad_Village_init_28 hr0 ?_
  refine an_Dbi (pc := 29) ad_Village_init_29 ⟨by decide, by decide⟩ ?_
  refine an_Dna (pc := 31) (n0 := 3) (K := 14) (n := 8) (t0 := 1) (ty := .int) (atype := .int) (a0 := (8, .inl (fun _ => 0))) rfl (by decide +kernel) ad_Village_init_31 rfl am_ai (fun _ => rfl) (an_na14 8) (fun _ => rfl) (by decide) (by decide) (Nat.le_of_ble_eq_true rfl) (Nat.le_of_ble_eq_true rfl) (Nat.le_of_ble_eq_true rfl) fun q3 => ?_
  refine an_Dpf (pc := 33) (fty := .array .int) (fs1 := [.int 0, .int 0, .int 0, .int 0, .int 0, .int 0, .int 0, .ref q0, .ref q1, .ref q2, .ref q3, .null, .null, .null, .null, .null, .null]) hin rfl ad_Village_init_33 am_f9_10 am_fl_Village_21 (by decide +kernel) rfl rfl (Nat.le_of_ble_eq_true rfl) rfl ?_
  refine an_Dal (pc := 36) ad_Village_init_36 hr0 ?_
  refine an_Dbi (pc := 37) ad_Village_init_37 ⟨by decide, by decide⟩ ?_
  refine an_Dna (pc := 39) (n0 := 4) (K := 14) (n := 8) (t0 := 1) (ty := .int) (atype := .int) (a0 := (8, .inl (fun _ => 0))) rfl (by decide +kernel) ad_Village_init_39 rfl am_ai (fun _ => rfl) (an_na14 8) (fun _ => rfl) (by decide) (by decide) (Nat.le_of_ble_eq_true rfl) (Nat.le_of_ble_eq_true rfl) (Nat.le_of_ble_eq_true rfl) fun q4 => ?_
  refine an_Dpf (pc := 41) (fty := .array .int) (fs1 := [.int 0, .int 0, .int 0, .int 0, .int 0, .int 0, .int 0, .ref q0, .ref q1, .ref q2, .ref q3, .ref q4, .null, .null, .null, .null, .null]) hin rfl ad_Village_init_41 am_f9_11 am_fl_Village_24 (by decide +kernel) rfl rfl (Nat.le_of_ble_eq_true rfl) rfl ?_
  refine an_Dal (pc := 44) ad_Village_init_44 hr0 ?_
  refine an_Dbi (pc := 45) ad_Village_init_45 ⟨by decide, by decide⟩ ?_
  refine an_Dna (pc := 47) (n0 := 5) (K := 14) (n := 48) (t0 := 1) (ty := .int) (atype := .int) (a0 := (48, .inl (fun _ => 0))) rfl (by decide +kernel) ad_Village_init_47 rfl am_ai (fun _ => rfl) (an_na14 48) (fun _ => rfl) (by decide) (by decide) (Nat.le_of_ble_eq_true rfl) (Nat.le_of_ble_eq_true rfl) (Nat.le_of_ble_eq_true rfl) fun q5 => ?_
  refine an_Dpf (pc := 49) (fty := .array .int) (fs1 := [.int 0, .int 0, .int 0, .int 0, .int 0, .int 0, .int 0, .ref q0, .ref q1, .ref q2, .ref q3, .ref q4, .ref q5, .null, .null, .null, .null]) hin rfl ad_Village_init_49 am_f9_12 am_fl_Village_27 (by decide +kernel) rfl rfl (Nat.le_of_ble_eq_true rfl) rfl ?_
  refine an_Dal (pc := 52) ad_Village_init_52 hr0 ?_
  refine an_Dbi (pc := 53) ad_Village_init_53 ⟨by decide, by decide⟩ ?_
  refine an_Dna (pc := 55) (n0 := 6) (K := 14) (n := 64) (t0 := 1) (ty := .int) (atype := .int) (a0 := (64, .inl (fun _ => 0))) rfl (by decide +kernel) ad_Village_init_55 rfl am_ai (fun _ => rfl) (an_na14 64) (fun _ => rfl) (by decide) (by decide) (Nat.le_of_ble_eq_true rfl) (Nat.le_of_ble_eq_true rfl) (Nat.le_of_ble_eq_true rfl) fun q6 => ?_
  refine an_Dpf (pc := 57) (fty := .array .int) (fs1 := [.int 0, .int 0, .int 0, .int 0, .int 0, .int 0, .int 0, .ref q0, .ref q1, .ref q2, .ref q3, .ref q4, .ref q5, .ref q6, .null, .null, .null]) hin rfl ad_Village_init_57 am_f9_13 am_fl_Village_30 (by decide +kernel) rfl rfl (Nat.le_of_ble_eq_true rfl) rfl ?_
  refine an_Dal (pc := 60) ad_Village_init_60 hr0 ?_
  refine an_Dbi (pc := 61) ad_Village_init_61 ⟨by decide, by decide⟩ ?_
  refine an_Dna (pc := 63) (n0 := 7) (K := 14) (n := 64) (t0 := 1) (ty := .int) (atype := .int) (a0 := (64, .inl (fun _ => 0))) rfl (by decide +kernel) ad_Village_init_63 rfl am_ai (fun _ => rfl) (an_na14 64) (fun _ => rfl) (by decide) (by decide) (Nat.le_of_ble_eq_true rfl) (Nat.le_of_ble_eq_true rfl) (Nat.le_of_ble_eq_true rfl) fun q7 => ?_
  refine an_Dpf (pc := 65) (fty := .array .int) (fs1 := [.int 0, .int 0, .int 0, .int 0, .int 0, .int 0, .int 0, .ref q0, .ref q1, .ref q2, .ref q3, .ref q4, .ref q5, .ref q6, .ref q7, .null, .null]) hin rfl ad_Village_init_65 am_f9_14 am_fl_Village_33 (by decide +kernel) rfl rfl (Nat.le_of_ble_eq_true rfl) rfl ?_
  refine an_Dal (pc := 68) ad_Village_init_68 hr0 ?_
  refine an_Dbi (pc := 69) ad_Village_init_69 ⟨by decide, by decide⟩ ?_
  refine an_Dna (pc := 71) (n0 := 8) (K := 14) (n := 48) (t0 := 1) (ty := .int) (atype := .int) (a0 := (48, .inl (fun _ => 0))) rfl (by decide +kernel) ad_Village_init_71 rfl am_ai (fun _ => rfl) (an_na14 48) (fun _ => rfl) (by decide) (by decide) (Nat.le_of_ble_eq_true rfl) (Nat.le_of_ble_eq_true rfl) (Nat.le_of_ble_eq_true rfl) fun q8 => ?_
  refine an_Dpf (pc := 73) (fty := .array .int) (fs1 := [.int 0, .int 0, .int 0, .int 0, .int 0, .int 0, .int 0, .ref q0, .ref q1, .ref q2, .ref q3, .ref q4, .ref q5, .ref q6, .ref q7, .ref q8, .null]) hin rfl ad_Village_init_73 am_f9_15 am_fl_Village_36 (by decide +kernel) rfl rfl (Nat.le_of_ble_eq_true rfl) rfl ?_
  refine an_Dal (pc := 76) ad_Village_init_76 hr0 ?_
  refine an_Dbi (pc := 77) ad_Village_init_77 ⟨by decide, by decide⟩ ?_
  refine an_Dna (pc := 79) (n0 := 9) (K := 14) (n := 48) (t0 := 1) (ty := .int) (atype := .int) (a0 := (48, .inl (fun _ => 0))) rfl (by decide +kernel) ad_Village_init_79 rfl am_ai (fun _ => rfl) (an_na14 48) (fun _ => rfl) (by decide) (by decide) (Nat.le_of_ble_eq_true rfl) (Nat.le_of_ble_eq_true rfl) (Nat.le_of_ble_eq_true rfl) fun q9 => ?_
  refine an_Dpf (pc := 81) (fty := .array .int) (fs1 := [.int 0, .int 0, .int 0, .int 0, .int 0, .int 0, .int 0, .ref q0, .ref q1, .ref q2, .ref q3, .ref q4, .ref q5, .ref q6, .ref q7, .ref q8, .ref q9]) hin rfl ad_Village_init_81 am_f9_16 am_fl_Village_39 (by decide +kernel) rfl rfl (Nat.le_of_ble_eq_true rfl) rfl ?_
  refine an_Dfin (fun _ => 0) (fun _ => am_rg_0 _) (Nat.le_of_ble_eq_true rfl) rfl ?_
  refine an_DY (Y' := am_L9) rfl ?_
  refine an_DW (ls := [some (.inr (.inr 0))]) (st' := []) rfl an_ll1 (fun v hv => by simp at hv) (an_lv1 hrs hwf hr0) ?_
  refine an_aload_n (pc := 84) ad_Village_init_84 rfl ?_
  refine an_vV (d := 4) (K := (fun h => zVl h 0)) ⟨Nat.le_refl _, Nat.le_refl _, Nat.le_of_ble_eq_true rfl, Nat.le_of_ble_eq_true rfl⟩ (pc := 85) (As := []) (st := []) ad_Village_init_85 am_Village_begin_w am_ml_Village_42 rfl rfl (Nat.le_of_ble_eq_true rfl) am_c9 rfl (am_kV.of (ac_Village_begin (d := 0) (fun i y hy => by rw [Nat.zero_add]; exact hy)) (by omega) fun h1 _ z => ⟨z.1, z.2.1, z.2.2.1⟩) fun h1 z => ?_
  exact an_Wret hAe ad_Village_init_88 rfl rfl z (Nat.le_of_ble_eq_true rfl) (Nat.le_of_ble_eq_true rfl)
theorem ad_State_init_0 : decode prog_9_method_1_code 0 = .ok (.aload_n 0, 1) := by decide +kernel
theorem ad_State_init_1 : decode prog_9_method_1_code 1 = .ok (.invokespecial 3, 3) := by decide +kernel
theorem ad_State_init_4 : decode prog_9_method_1_code 4 = .ok (.aload_n 0, 1) := by decide +kernel
theorem ad_State_init_5 : decode prog_9_method_1_code 5 = .ok (.new 9, 3) := by decide +kernel
theorem ad_State_init_8 : decode prog_9_method_1_code 8 = .ok (.dup, 1) := by decide +kernel
theorem ad_State_init_9 : decode prog_9_method_1_code 9 = .ok (.invokespecial 11, 3) := by decide +kernel
theorem ad_State_init_12 : decode prog_9_method_1_code 12 = .ok (.putfield 12, 3) := by decide +kernel
theorem ad_State_init_15 : decode prog_9_method_1_code 15 = .ok (.aload_n 0, 1) := by decide +kernel
theorem ad_State_init_16 : decode prog_9_method_1_code 16 = .ok (.new 18, 3) := by decide +kernel
theorem ad_State_init_19 : decode prog_9_method_1_code 19 = .ok (.dup, 1) := by decide +kernel
theorem ad_State_init_20 : decode prog_9_method_1_code 20 = .ok (.invokespecial 20, 3) := by decide +kernel
theorem ad_State_init_23 : decode prog_9_method_1_code 23 = .ok (.putfield 21, 3) := by decide +kernel
theorem ad_State_init_26 : decode prog_9_method_1_code 26 = .ok (.aload_n 0, 1) := by decide +kernel
theorem ad_State_init_27 : decode prog_9_method_1_code 27 = .ok (.bipush 8, 2) := by decide +kernel
theorem ad_State_init_29 : decode prog_9_method_1_code 29 = .ok (.newarray .int, 2) := by decide +kernel
theorem ad_State_init_31 : decode prog_9_method_1_code 31 = .ok (.putfield 25, 3) := by decide +kernel
theorem ad_State_init_34 : decode prog_9_method_1_code 34 = .ok (.aload_n 0, 1) := by decide +kernel
theorem ad_State_init_35 : decode prog_9_method_1_code 35 = .ok (.bipush 8, 2) := by decide +kernel
theorem ad_State_init_37 : decode prog_9_method_1_code 37 = .ok (.newarray .int, 2) := by decide +kernel
theorem ad_State_init_39 : decode prog_9_method_1_code 39 = .ok (.putfield 29, 3) := by decide +kernel
theorem ad_State_init_42 : decode prog_9_method_1_code 42 = .ok (.aload_n 0, 1) := by decide +kernel
theorem ad_State_init_43 : decode prog_9_method_1_code 43 = .ok (.sipush 200, 3) := by decide +kernel
theorem ad_State_init_46 : decode prog_9_method_1_code 46 = .ok (.newarray .byte, 2) := by decide +kernel
theorem ad_State_init_48 : decode prog_9_method_1_code 48 = .ok (.putfield 32, 3) := by decide +kernel
theorem ad_State_init_51 : decode prog_9_method_1_code 51 = .ok (.aload_n 0, 1) := by decide +kernel
theorem ad_State_init_52 : decode prog_9_method_1_code 52 = .ok (.iconst 0, 1) := by decide +kernel
theorem ad_State_init_53 : decode prog_9_method_1_code 53 = .ok (.putfield 36, 3) := by decide +kernel
theorem ad_State_init_56 : decode prog_9_method_1_code 56 = .ok (.aload_n 0, 1) := by decide +kernel
theorem ad_State_init_57 : decode prog_9_method_1_code 57 = .ok (.iconst 0, 1) := by decide +kernel
theorem ad_State_init_58 : decode prog_9_method_1_code 58 = .ok (.putfield 40, 3) := by decide +kernel
theorem ad_State_init_61 : decode prog_9_method_1_code 61 = .ok (.return_, 1) := by decide +kernel
theorem an_df7 : ∀ j, j < 7 → defaultValue (am_y7 j) = vp_V (an_f0 (am_fk 7)) j := by decide +kernel
theorem ai_State : an_CP am_State_init 7 8 23 1452 am_L7 (fun h => zSt h 0) := by
  refine an_CP.of (by decide) rfl rfl [.null, .null, .null, .null, .null, .int 0, .int 0] rfl fun p l e s m args below meth c G A h0 r hO hAe hin hrs hr0 hwf => ?_
  refine an_Dal (pc := 0) ad_State_init_0 hr0 ?_
  refine an_Dobj (pc := 1) ad_State_init_1 (am_t 38 (by decide +kernel) (by decide +kernel)) am_oi am_oc hrs (Nat.le_of_ble_eq_true rfl) (Nat.le_of_ble_eq_true rfl) (Nat.le_of_ble_eq_true rfl) ?_
  refine an_Dal (pc := 4) ad_State_init_4 hr0 ?_
  refine an_Dnew (pc := 5) (n0 := 0) (T := am_T9) (ty := am_y9) hO ai_Village rfl (by decide +kernel) ad_State_init_5 ad_State_init_8 ad_State_init_9 rfl am_uw9 am_p9 an_df9 (am_t 39 (by decide +kernel) (by decide +kernel)) (am_t 40 (by decide +kernel) (by decide +kernel)) (am_t 3 (by decide +kernel) (by decide +kernel)) (am_t 43 (by decide +kernel) (by decide +kernel)) rfl (Or.inl (am_t 41 (by decide +kernel) (by decide +kernel))) (am_t 42 (by decide +kernel) (by decide +kernel)) rfl ⟨by decide, by decide, by decide +kernel⟩ (Nat.le_of_ble_eq_true rfl) (Nat.le_of_ble_eq_true rfl) (Nat.le_of_ble_eq_true rfl) (Nat.le_of_ble_eq_true rfl) (Nat.le_of_ble_eq_true rfl) hrs (Nat.le_of_ble_eq_true rfl) fun a0 g0 z0 => ?_
  refine an_Dpf (pc := 12) (fty := .object "NightHelp$Village") (fs1 := [.ref (a0 0), .null, .null, .null, .null, .int 0, .int 0]) hin rfl ad_State_init_12 am_f7_0 am_fl_State_12 (by decide +kernel) rfl rfl (Nat.le_of_ble_eq_true rfl) rfl ?_
  refine an_Dal (pc := 15) ad_State_init_15 hr0 ?_
  refine an_Dnew (pc := 16) (n0 := 11) (T := am_T2) (ty := am_y2) hO ai_Book rfl (by decide +kernel) ad_State_init_16 ad_State_init_19 ad_State_init_20 rfl am_uw2 am_p2 an_df2 (am_t 159 (by decide +kernel) (by decide +kernel)) (am_t 160 (by decide +kernel) (by decide +kernel)) (am_t 5 (by decide +kernel) (by decide +kernel)) (am_t 163 (by decide +kernel) (by decide +kernel)) rfl (Or.inl (am_t 161 (by decide +kernel) (by decide +kernel))) (am_t 162 (by decide +kernel) (by decide +kernel)) rfl ⟨by decide, by decide, by decide +kernel⟩ (Nat.le_of_ble_eq_true rfl) (Nat.le_of_ble_eq_true rfl) (Nat.le_of_ble_eq_true rfl) (Nat.le_of_ble_eq_true rfl) (Nat.le_of_ble_eq_true rfl) hrs (Nat.le_of_ble_eq_true rfl) fun a1 g1 z1 => ?_
  refine an_Dpf (pc := 23) (fty := .object "NightHelp$Book") (fs1 := [.ref (a0 0), .ref (a1 0), .null, .null, .null, .int 0, .int 0]) hin rfl ad_State_init_23 am_f7_1 am_fl_State_21 (by decide +kernel) rfl rfl (Nat.le_of_ble_eq_true rfl) rfl ?_
  refine an_Dal (pc := 26) ad_State_init_26 hr0 ?_
  refine an_Dbi (pc := 27) ad_State_init_27 ⟨by decide, by decide⟩ ?_
  refine an_Dna (pc := 29) (n0 := 20) (K := 14) (n := 8) (t0 := 1) (ty := .int) (atype := .int) (a0 := (8, .inl (fun _ => 0))) rfl (by decide +kernel) ad_State_init_29 rfl am_ai (fun _ => rfl) (an_na14 8) (fun _ => rfl) (by decide) (by decide) (Nat.le_of_ble_eq_true rfl) (Nat.le_of_ble_eq_true rfl) (Nat.le_of_ble_eq_true rfl) fun q2 => ?_
  refine an_Dpf (pc := 31) (fty := .array .int) (fs1 := [.ref (a0 0), .ref (a1 0), .ref q2, .null, .null, .int 0, .int 0]) hin rfl ad_State_init_31 am_f7_2 am_fl_State_25 (by decide +kernel) rfl rfl (Nat.le_of_ble_eq_true rfl) rfl ?_
  refine an_Dal (pc := 34) ad_State_init_34 hr0 ?_
  refine an_Dbi (pc := 35) ad_State_init_35 ⟨by decide, by decide⟩ ?_
  refine an_Dna (pc := 37) (n0 := 21) (K := 14) (n := 8) (t0 := 1) (ty := .int) (atype := .int) (a0 := (8, .inl (fun _ => 0))) rfl (by decide +kernel) ad_State_init_37 rfl am_ai (fun _ => rfl) (an_na14 8) (fun _ => rfl) (by decide) (by decide) (Nat.le_of_ble_eq_true rfl) (Nat.le_of_ble_eq_true rfl) (Nat.le_of_ble_eq_true rfl) fun q3 => ?_
  refine an_Dpf (pc := 39) (fty := .array .int) (fs1 := [.ref (a0 0), .ref (a1 0), .ref q2, .ref q3, .null, .int 0, .int 0]) hin rfl ad_State_init_39 am_f7_3 am_fl_State_29 (by decide +kernel) rfl rfl (Nat.le_of_ble_eq_true rfl) rfl ?_
  refine an_Dal (pc := 42) ad_State_init_42 hr0 ?_
  refine an_Dsi (pc := 43) ad_State_init_43 ⟨by decide, by decide⟩ ?_
  refine an_Dna (pc := 46) (n0 := 22) (K := 13) (n := 200) (t0 := 0) (ty := .byte) (atype := .byte) (a0 := (200, .inl (fun _ => 0))) rfl (by decide +kernel) ad_State_init_46 rfl am_ab (fun _ => rfl) (an_na13 200) (fun _ => rfl) (by decide) (by decide) (Nat.le_of_ble_eq_true rfl) (Nat.le_of_ble_eq_true rfl) (Nat.le_of_ble_eq_true rfl) fun q4 => ?_
  refine an_Dpf (pc := 48) (fty := .array .byte) (fs1 := [.ref (a0 0), .ref (a1 0), .ref q2, .ref q3, .ref q4, .int 0, .int 0]) hin rfl ad_State_init_48 am_f7_4 am_fl_State_32 (by decide +kernel) rfl rfl (Nat.le_of_ble_eq_true rfl) rfl ?_
  refine an_Dal (pc := 51) ad_State_init_51 hr0 ?_
  refine an_Dic (pc := 52) ad_State_init_52 ?_
  refine an_Dpn (pc := 53) (fty := .int) (fs1 := [.ref (a0 0), .ref (a1 0), .ref q2, .ref q3, .ref q4, .int (Int32.ofInt 0), .int 0]) ad_State_init_53 am_f7_5 am_fl_State_36 (by decide +kernel) rfl rfl (Nat.le_of_ble_eq_true rfl) rfl ?_
  refine an_Dal (pc := 56) ad_State_init_56 hr0 ?_
  refine an_Dic (pc := 57) ad_State_init_57 ?_
  refine an_Dpn (pc := 58) (fty := .boolean) (fs1 := [.ref (a0 0), .ref (a1 0), .ref q2, .ref q3, .ref q4, .int (Int32.ofInt 0), .int (Int32.ofInt 0)]) ad_State_init_58 am_f7_6 am_fl_State_40 (by decide +kernel) rfl rfl (Nat.le_of_ble_eq_true rfl) rfl ?_
  refine an_Dfin (fun _ => 0) (fun _ => am_rg_0 _) (Nat.le_of_ble_eq_true rfl) rfl ?_
  refine an_DY (Y' := am_L7) rfl ?_
  exact an_Dret hAe ad_State_init_61 rfl rfl ⟨rfl, z0.c (fun q hq => by rw [an_ap_ge (by omega), an_ap_lt (by omega), an_ap_lt (by omega), an_ap_lt (by omega), an_ap_lt (by omega), an_ap_ge (by omega)]; congr 1; omega), z1.c (fun q hq => by rw [an_ap_ge (by omega), an_ap_lt (by omega), an_ap_lt (by omega), an_ap_lt (by omega), an_ap_ge (by omega)]; congr 1; omega), rfl, rfl⟩ (Nat.le_of_ble_eq_true rfl) (Nat.le_of_ble_eq_true rfl)
theorem ad_BookText_init_0 : decode prog_5_method_1_code 0 = .ok (.aload_n 0, 1) := by decide +kernel
theorem ad_BookText_init_1 : decode prog_5_method_1_code 1 = .ok (.invokespecial 3, 3) := by decide +kernel
theorem ad_BookText_init_4 : decode prog_5_method_1_code 4 = .ok (.aload_n 0, 1) := by decide +kernel
theorem ad_BookText_init_5 : decode prog_5_method_1_code 5 = .ok (.new 9, 3) := by decide +kernel
theorem ad_BookText_init_8 : decode prog_5_method_1_code 8 = .ok (.dup, 1) := by decide +kernel
theorem ad_BookText_init_9 : decode prog_5_method_1_code 9 = .ok (.invokespecial 11, 3) := by decide +kernel
theorem ad_BookText_init_12 : decode prog_5_method_1_code 12 = .ok (.putfield 12, 3) := by decide +kernel
theorem ad_BookText_init_15 : decode prog_5_method_1_code 15 = .ok (.aload_n 0, 1) := by decide +kernel
theorem ad_BookText_init_16 : decode prog_5_method_1_code 16 = .ok (.new 18, 3) := by decide +kernel
theorem ad_BookText_init_19 : decode prog_5_method_1_code 19 = .ok (.dup, 1) := by decide +kernel
theorem ad_BookText_init_20 : decode prog_5_method_1_code 20 = .ok (.invokespecial 20, 3) := by decide +kernel
theorem ad_BookText_init_23 : decode prog_5_method_1_code 23 = .ok (.putfield 21, 3) := by decide +kernel
theorem ad_BookText_init_26 : decode prog_5_method_1_code 26 = .ok (.aload_n 0, 1) := by decide +kernel
theorem ad_BookText_init_27 : decode prog_5_method_1_code 27 = .ok (.iconst 0, 1) := by decide +kernel
theorem ad_BookText_init_28 : decode prog_5_method_1_code 28 = .ok (.putfield 25, 3) := by decide +kernel
theorem ad_BookText_init_31 : decode prog_5_method_1_code 31 = .ok (.aload_n 0, 1) := by decide +kernel
theorem ad_BookText_init_32 : decode prog_5_method_1_code 32 = .ok (.iconst 0, 1) := by decide +kernel
theorem ad_BookText_init_33 : decode prog_5_method_1_code 33 = .ok (.putfield 29, 3) := by decide +kernel
theorem ad_BookText_init_36 : decode prog_5_method_1_code 36 = .ok (.aload_n 0, 1) := by decide +kernel
theorem ad_BookText_init_37 : decode prog_5_method_1_code 37 = .ok (.iconst 0, 1) := by decide +kernel
theorem ad_BookText_init_38 : decode prog_5_method_1_code 38 = .ok (.putfield 32, 3) := by decide +kernel
theorem ad_BookText_init_41 : decode prog_5_method_1_code 41 = .ok (.aload_n 0, 1) := by decide +kernel
theorem ad_BookText_init_42 : decode prog_5_method_1_code 42 = .ok (.iconst 0, 1) := by decide +kernel
theorem ad_BookText_init_43 : decode prog_5_method_1_code 43 = .ok (.putfield 35, 3) := by decide +kernel
theorem ad_BookText_init_46 : decode prog_5_method_1_code 46 = .ok (.aload_n 0, 1) := by decide +kernel
theorem ad_BookText_init_47 : decode prog_5_method_1_code 47 = .ok (.iconst 0, 1) := by decide +kernel
theorem ad_BookText_init_48 : decode prog_5_method_1_code 48 = .ok (.putfield 38, 3) := by decide +kernel
theorem ad_BookText_init_51 : decode prog_5_method_1_code 51 = .ok (.aload_n 0, 1) := by decide +kernel
theorem ad_BookText_init_52 : decode prog_5_method_1_code 52 = .ok (.iconst 0, 1) := by decide +kernel
theorem ad_BookText_init_53 : decode prog_5_method_1_code 53 = .ok (.putfield 41, 3) := by decide +kernel
theorem ad_BookText_init_56 : decode prog_5_method_1_code 56 = .ok (.return_, 1) := by decide +kernel
theorem an_df3 : ∀ j, j < 8 → defaultValue (am_y3 j) = vp_V (an_f0 (am_fk 3)) j := by decide +kernel
theorem ai_BookText : an_CP am_BookText_init 3 8 13 3925 am_L3 (fun _ => True) := by
  refine an_CP.of (by decide) rfl rfl [.null, .null, .int 0, .int 0, .int 0, .int 0, .int 0, .int 0] rfl fun p l e s m args below meth c G A h0 r hO hAe hin hrs hr0 hwf => ?_
  refine an_Dal (pc := 0) ad_BookText_init_0 hr0 ?_
  refine an_Dobj (pc := 1) ad_BookText_init_1 (am_t 354 (by decide +kernel) (by decide +kernel)) am_oi am_oc hrs (Nat.le_of_ble_eq_true rfl) (Nat.le_of_ble_eq_true rfl) (Nat.le_of_ble_eq_true rfl) ?_
  refine an_Dal (pc := 4) ad_BookText_init_4 hr0 ?_
  refine an_Dnew (pc := 5) (n0 := 0) (T := am_T8) (ty := am_y8) hO ai_Tokens rfl (by decide +kernel) ad_BookText_init_5 ad_BookText_init_8 ad_BookText_init_9 rfl am_uw8 am_p8 an_df8 (am_t 355 (by decide +kernel) (by decide +kernel)) (am_t 275 (by decide +kernel) (by decide +kernel)) (am_t 8 (by decide +kernel) (by decide +kernel)) (am_t 278 (by decide +kernel) (by decide +kernel)) rfl (Or.inr (List.mem_of_getElem? (i := 4) rfl)) (am_t 277 (by decide +kernel) (by decide +kernel)) rfl ⟨by decide, by decide, by decide +kernel⟩ (Nat.le_of_ble_eq_true rfl) (Nat.le_of_ble_eq_true rfl) (Nat.le_of_ble_eq_true rfl) (Nat.le_of_ble_eq_true rfl) (Nat.le_of_ble_eq_true rfl) hrs (Nat.le_of_ble_eq_true rfl) fun a0 g0 z0 => ?_
  refine an_Dpf (pc := 12) (fty := .object "NightHelp$Tokens") (fs1 := [.ref (a0 0), .null, .int 0, .int 0, .int 0, .int 0, .int 0, .int 0]) hin rfl ad_BookText_init_12 am_f3_0 am_fl_BookText_12 (by decide +kernel) rfl rfl (Nat.le_of_ble_eq_true rfl) rfl ?_
  refine an_Dal (pc := 15) ad_BookText_init_15 hr0 ?_
  refine an_Dnew (pc := 16) (n0 := 4) (T := am_T2) (ty := am_y2) hO ai_Book rfl (by decide +kernel) ad_BookText_init_16 ad_BookText_init_19 ad_BookText_init_20 rfl am_uw2 am_p2 an_df2 (am_t 357 (by decide +kernel) (by decide +kernel)) (am_t 160 (by decide +kernel) (by decide +kernel)) (am_t 5 (by decide +kernel) (by decide +kernel)) (am_t 163 (by decide +kernel) (by decide +kernel)) rfl (Or.inl (am_t 358 (by decide +kernel) (by decide +kernel))) (am_t 162 (by decide +kernel) (by decide +kernel)) rfl ⟨by decide, by decide, by decide +kernel⟩ (Nat.le_of_ble_eq_true rfl) (Nat.le_of_ble_eq_true rfl) (Nat.le_of_ble_eq_true rfl) (Nat.le_of_ble_eq_true rfl) (Nat.le_of_ble_eq_true rfl) hrs (Nat.le_of_ble_eq_true rfl) fun a1 g1 z1 => ?_
  refine an_Dpf (pc := 23) (fty := .object "NightHelp$Book") (fs1 := [.ref (a0 0), .ref (a1 0), .int 0, .int 0, .int 0, .int 0, .int 0, .int 0]) hin rfl ad_BookText_init_23 am_f3_1 am_fl_BookText_21 (by decide +kernel) rfl rfl (Nat.le_of_ble_eq_true rfl) rfl ?_
  refine an_Dal (pc := 26) ad_BookText_init_26 hr0 ?_
  refine an_Dic (pc := 27) ad_BookText_init_27 ?_
  refine an_Dpn (pc := 28) (fty := .int) (fs1 := [.ref (a0 0), .ref (a1 0), .int (Int32.ofInt 0), .int 0, .int 0, .int 0, .int 0, .int 0]) ad_BookText_init_28 am_f3_2 am_fl_BookText_25 (by decide +kernel) rfl rfl (Nat.le_of_ble_eq_true rfl) rfl ?_
  refine an_Dal (pc := 31) ad_BookText_init_31 hr0 ?_
  refine an_Dic (pc := 32) ad_BookText_init_32 ?_
  refine an_Dpn (pc := 33) (fty := .int) (fs1 := [.ref (a0 0), .ref (a1 0), .int (Int32.ofInt 0), .int (Int32.ofInt 0), .int 0, .int 0, .int 0, .int 0]) ad_BookText_init_33 am_f3_3 am_fl_BookText_29 (by decide +kernel) rfl rfl (Nat.le_of_ble_eq_true rfl) rfl ?_
  refine an_Dal (pc := 36) ad_BookText_init_36 hr0 ?_
  refine an_Dic (pc := 37) ad_BookText_init_37 ?_
  refine an_Dpn (pc := 38) (fty := .int) (fs1 := [.ref (a0 0), .ref (a1 0), .int (Int32.ofInt 0), .int (Int32.ofInt 0), .int (Int32.ofInt 0), .int 0, .int 0, .int 0]) ad_BookText_init_38 am_f3_4 am_fl_BookText_32 (by decide +kernel) rfl rfl (Nat.le_of_ble_eq_true rfl) rfl ?_
  refine an_Dal (pc := 41) ad_BookText_init_41 hr0 ?_
  refine an_Dic (pc := 42) ad_BookText_init_42 ?_
  refine an_Dpn (pc := 43) (fty := .int) (fs1 := [.ref (a0 0), .ref (a1 0), .int (Int32.ofInt 0), .int (Int32.ofInt 0), .int (Int32.ofInt 0), .int (Int32.ofInt 0), .int 0, .int 0]) ad_BookText_init_43 am_f3_5 am_fl_BookText_35 (by decide +kernel) rfl rfl (Nat.le_of_ble_eq_true rfl) rfl ?_
  refine an_Dal (pc := 46) ad_BookText_init_46 hr0 ?_
  refine an_Dic (pc := 47) ad_BookText_init_47 ?_
  refine an_Dpn (pc := 48) (fty := .int) (fs1 := [.ref (a0 0), .ref (a1 0), .int (Int32.ofInt 0), .int (Int32.ofInt 0), .int (Int32.ofInt 0), .int (Int32.ofInt 0), .int (Int32.ofInt 0), .int 0]) ad_BookText_init_48 am_f3_6 am_fl_BookText_38 (by decide +kernel) rfl rfl (Nat.le_of_ble_eq_true rfl) rfl ?_
  refine an_Dal (pc := 51) ad_BookText_init_51 hr0 ?_
  refine an_Dic (pc := 52) ad_BookText_init_52 ?_
  refine an_Dpn (pc := 53) (fty := .boolean) (fs1 := [.ref (a0 0), .ref (a1 0), .int (Int32.ofInt 0), .int (Int32.ofInt 0), .int (Int32.ofInt 0), .int (Int32.ofInt 0), .int (Int32.ofInt 0), .int (Int32.ofInt 0)]) ad_BookText_init_53 am_f3_7 am_fl_BookText_41 (by decide +kernel) rfl rfl (Nat.le_of_ble_eq_true rfl) rfl ?_
  refine an_Dfin (fun _ => 0) (fun _ => am_rg_0 _) (Nat.le_of_ble_eq_true rfl) rfl ?_
  refine an_DY (Y' := am_L3) rfl ?_
  exact an_Dret hAe ad_BookText_init_56 rfl rfl trivial (Nat.le_of_ble_eq_true rfl) (Nat.le_of_ble_eq_true rfl)
theorem ad_VillageText_init_0 : decode prog_12_method_1_code 0 = .ok (.aload_n 0, 1) := by decide +kernel
theorem ad_VillageText_init_1 : decode prog_12_method_1_code 1 = .ok (.invokespecial 3, 3) := by decide +kernel
theorem ad_VillageText_init_4 : decode prog_12_method_1_code 4 = .ok (.aload_n 0, 1) := by decide +kernel
theorem ad_VillageText_init_5 : decode prog_12_method_1_code 5 = .ok (.new 9, 3) := by decide +kernel
theorem ad_VillageText_init_8 : decode prog_12_method_1_code 8 = .ok (.dup, 1) := by decide +kernel
theorem ad_VillageText_init_9 : decode prog_12_method_1_code 9 = .ok (.invokespecial 11, 3) := by decide +kernel
theorem ad_VillageText_init_12 : decode prog_12_method_1_code 12 = .ok (.putfield 12, 3) := by decide +kernel
theorem ad_VillageText_init_15 : decode prog_12_method_1_code 15 = .ok (.aload_n 0, 1) := by decide +kernel
theorem ad_VillageText_init_16 : decode prog_12_method_1_code 16 = .ok (.new 18, 3) := by decide +kernel
theorem ad_VillageText_init_19 : decode prog_12_method_1_code 19 = .ok (.dup, 1) := by decide +kernel
theorem ad_VillageText_init_20 : decode prog_12_method_1_code 20 = .ok (.invokespecial 20, 3) := by decide +kernel
theorem ad_VillageText_init_23 : decode prog_12_method_1_code 23 = .ok (.putfield 21, 3) := by decide +kernel
theorem ad_VillageText_init_26 : decode prog_12_method_1_code 26 = .ok (.aload_n 0, 1) := by decide +kernel
theorem ad_VillageText_init_27 : decode prog_12_method_1_code 27 = .ok (.iconst 0, 1) := by decide +kernel
theorem ad_VillageText_init_28 : decode prog_12_method_1_code 28 = .ok (.putfield 25, 3) := by decide +kernel
theorem ad_VillageText_init_31 : decode prog_12_method_1_code 31 = .ok (.aload_n 0, 1) := by decide +kernel
theorem ad_VillageText_init_32 : decode prog_12_method_1_code 32 = .ok (.iconst 0, 1) := by decide +kernel
theorem ad_VillageText_init_33 : decode prog_12_method_1_code 33 = .ok (.putfield 29, 3) := by decide +kernel
theorem ad_VillageText_init_36 : decode prog_12_method_1_code 36 = .ok (.aload_n 0, 1) := by decide +kernel
theorem ad_VillageText_init_37 : decode prog_12_method_1_code 37 = .ok (.iconst 0, 1) := by decide +kernel
theorem ad_VillageText_init_38 : decode prog_12_method_1_code 38 = .ok (.putfield 32, 3) := by decide +kernel
theorem ad_VillageText_init_41 : decode prog_12_method_1_code 41 = .ok (.return_, 1) := by decide +kernel
theorem an_df10 : ∀ j, j < 5 → defaultValue (am_y10 j) = vp_V (an_f0 (am_fk 10)) j := by decide +kernel
theorem ai_VillageText : an_CP am_VillageText_init 10 8 15 3335 am_L10 (fun _ => True) := by
  refine an_CP.of (by decide) rfl rfl [.null, .null, .int 0, .int 0, .int 0] rfl fun p l e s m args below meth c G A h0 r hO hAe hin hrs hr0 hwf => ?_
  refine an_Dal (pc := 0) ad_VillageText_init_0 hr0 ?_
  refine an_Dobj (pc := 1) ad_VillageText_init_1 (am_t 273 (by decide +kernel) (by decide +kernel)) am_oi am_oc hrs (Nat.le_of_ble_eq_true rfl) (Nat.le_of_ble_eq_true rfl) (Nat.le_of_ble_eq_true rfl) ?_
  refine an_Dal (pc := 4) ad_VillageText_init_4 hr0 ?_
  refine an_Dnew (pc := 5) (n0 := 0) (T := am_T8) (ty := am_y8) hO ai_Tokens rfl (by decide +kernel) ad_VillageText_init_5 ad_VillageText_init_8 ad_VillageText_init_9 rfl am_uw8 am_p8 an_df8 (am_t 274 (by decide +kernel) (by decide +kernel)) (am_t 275 (by decide +kernel) (by decide +kernel)) (am_t 8 (by decide +kernel) (by decide +kernel)) (am_t 278 (by decide +kernel) (by decide +kernel)) rfl (Or.inr (List.mem_of_getElem? (i := 2) rfl)) (am_t 277 (by decide +kernel) (by decide +kernel)) rfl ⟨by decide, by decide, by decide +kernel⟩ (Nat.le_of_ble_eq_true rfl) (Nat.le_of_ble_eq_true rfl) (Nat.le_of_ble_eq_true rfl) (Nat.le_of_ble_eq_true rfl) (Nat.le_of_ble_eq_true rfl) hrs (Nat.le_of_ble_eq_true rfl) fun a0 g0 z0 => ?_
  refine an_Dpf (pc := 12) (fty := .object "NightHelp$Tokens") (fs1 := [.ref (a0 0), .null, .int 0, .int 0, .int 0]) hin rfl ad_VillageText_init_12 am_f10_0 am_fl_VillageText_12 (by decide +kernel) rfl rfl (Nat.le_of_ble_eq_true rfl) rfl ?_
  refine an_Dal (pc := 15) ad_VillageText_init_15 hr0 ?_
  refine an_Dnew (pc := 16) (n0 := 4) (T := am_T9) (ty := am_y9) hO ai_Village rfl (by decide +kernel) ad_VillageText_init_16 ad_VillageText_init_19 ad_VillageText_init_20 rfl am_uw9 am_p9 an_df9 (am_t 329 (by decide +kernel) (by decide +kernel)) (am_t 40 (by decide +kernel) (by decide +kernel)) (am_t 3 (by decide +kernel) (by decide +kernel)) (am_t 43 (by decide +kernel) (by decide +kernel)) rfl (Or.inl (am_t 330 (by decide +kernel) (by decide +kernel))) (am_t 42 (by decide +kernel) (by decide +kernel)) rfl ⟨by decide, by decide, by decide +kernel⟩ (Nat.le_of_ble_eq_true rfl) (Nat.le_of_ble_eq_true rfl) (Nat.le_of_ble_eq_true rfl) (Nat.le_of_ble_eq_true rfl) (Nat.le_of_ble_eq_true rfl) hrs (Nat.le_of_ble_eq_true rfl) fun a1 g1 z1 => ?_
  refine an_Dpf (pc := 23) (fty := .object "NightHelp$Village") (fs1 := [.ref (a0 0), .ref (a1 0), .int 0, .int 0, .int 0]) hin rfl ad_VillageText_init_23 am_f10_1 am_fl_VillageText_21 (by decide +kernel) rfl rfl (Nat.le_of_ble_eq_true rfl) rfl ?_
  refine an_Dal (pc := 26) ad_VillageText_init_26 hr0 ?_
  refine an_Dic (pc := 27) ad_VillageText_init_27 ?_
  refine an_Dpn (pc := 28) (fty := .boolean) (fs1 := [.ref (a0 0), .ref (a1 0), .int (Int32.ofInt 0), .int 0, .int 0]) ad_VillageText_init_28 am_f10_2 am_fl_VillageText_25 (by decide +kernel) rfl rfl (Nat.le_of_ble_eq_true rfl) rfl ?_
  refine an_Dal (pc := 31) ad_VillageText_init_31 hr0 ?_
  refine an_Dic (pc := 32) ad_VillageText_init_32 ?_
  refine an_Dpn (pc := 33) (fty := .boolean) (fs1 := [.ref (a0 0), .ref (a1 0), .int (Int32.ofInt 0), .int (Int32.ofInt 0), .int 0]) ad_VillageText_init_33 am_f10_3 am_fl_VillageText_29 (by decide +kernel) rfl rfl (Nat.le_of_ble_eq_true rfl) rfl ?_
  refine an_Dal (pc := 36) ad_VillageText_init_36 hr0 ?_
  refine an_Dic (pc := 37) ad_VillageText_init_37 ?_
  refine an_Dpn (pc := 38) (fty := .boolean) (fs1 := [.ref (a0 0), .ref (a1 0), .int (Int32.ofInt 0), .int (Int32.ofInt 0), .int (Int32.ofInt 0)]) ad_VillageText_init_38 am_f10_4 am_fl_VillageText_32 (by decide +kernel) rfl rfl (Nat.le_of_ble_eq_true rfl) rfl ?_
  refine an_Dfin (fun _ => 0) (fun _ => am_rg_0 _) (Nat.le_of_ble_eq_true rfl) rfl ?_
  refine an_DY (Y' := am_L10) rfl ?_
  exact an_Dret hAe ad_VillageText_init_41 rfl rfl trivial (Nat.le_of_ble_eq_true rfl) (Nat.le_of_ble_eq_true rfl)
theorem ad_SentenceText_init_0 : decode prog_8_method_1_code 0 = .ok (.aload_n 0, 1) := by decide +kernel
theorem ad_SentenceText_init_1 : decode prog_8_method_1_code 1 = .ok (.invokespecial 3, 3) := by decide +kernel
theorem ad_SentenceText_init_4 : decode prog_8_method_1_code 4 = .ok (.aload_n 0, 1) := by decide +kernel
theorem ad_SentenceText_init_5 : decode prog_8_method_1_code 5 = .ok (.new 9, 3) := by decide +kernel
theorem ad_SentenceText_init_8 : decode prog_8_method_1_code 8 = .ok (.dup, 1) := by decide +kernel
theorem ad_SentenceText_init_9 : decode prog_8_method_1_code 9 = .ok (.invokespecial 11, 3) := by decide +kernel
theorem ad_SentenceText_init_12 : decode prog_8_method_1_code 12 = .ok (.putfield 12, 3) := by decide +kernel
theorem ad_SentenceText_init_15 : decode prog_8_method_1_code 15 = .ok (.aload_n 0, 1) := by decide +kernel
theorem ad_SentenceText_init_16 : decode prog_8_method_1_code 16 = .ok (.iconst 0, 1) := by decide +kernel
theorem ad_SentenceText_init_17 : decode prog_8_method_1_code 17 = .ok (.putfield 18, 3) := by decide +kernel
theorem ad_SentenceText_init_20 : decode prog_8_method_1_code 20 = .ok (.aload_n 0, 1) := by decide +kernel
theorem ad_SentenceText_init_21 : decode prog_8_method_1_code 21 = .ok (.iconst 0, 1) := by decide +kernel
theorem ad_SentenceText_init_22 : decode prog_8_method_1_code 22 = .ok (.putfield 22, 3) := by decide +kernel
theorem ad_SentenceText_init_25 : decode prog_8_method_1_code 25 = .ok (.aload_n 0, 1) := by decide +kernel
theorem ad_SentenceText_init_26 : decode prog_8_method_1_code 26 = .ok (.iconst 0, 1) := by decide +kernel
theorem ad_SentenceText_init_27 : decode prog_8_method_1_code 27 = .ok (.putfield 25, 3) := by decide +kernel
theorem ad_SentenceText_init_30 : decode prog_8_method_1_code 30 = .ok (.aload_n 0, 1) := by decide +kernel
theorem ad_SentenceText_init_31 : decode prog_8_method_1_code 31 = .ok (.bipush 40, 2) := by decide +kernel
theorem ad_SentenceText_init_33 : decode prog_8_method_1_code 33 = .ok (.newarray .int, 2) := by decide +kernel
theorem ad_SentenceText_init_35 : decode prog_8_method_1_code 35 = .ok (.putfield 28, 3) := by decide +kernel
theorem ad_SentenceText_init_38 : decode prog_8_method_1_code 38 = .ok (.aload_n 0, 1) := by decide +kernel
theorem ad_SentenceText_init_39 : decode prog_8_method_1_code 39 = .ok (.iconst 0, 1) := by decide +kernel
theorem ad_SentenceText_init_40 : decode prog_8_method_1_code 40 = .ok (.putfield 32, 3) := by decide +kernel
theorem ad_SentenceText_init_43 : decode prog_8_method_1_code 43 = .ok (.aload_n 0, 1) := by decide +kernel
theorem ad_SentenceText_init_44 : decode prog_8_method_1_code 44 = .ok (.iconst 0, 1) := by decide +kernel
theorem ad_SentenceText_init_45 : decode prog_8_method_1_code 45 = .ok (.putfield 35, 3) := by decide +kernel
theorem ad_SentenceText_init_48 : decode prog_8_method_1_code 48 = .ok (.return_, 1) := by decide +kernel
theorem an_df6 : ∀ j, j < 7 → defaultValue (am_y6 j) = vp_V (an_f0 (am_fk 6)) j := by decide +kernel
theorem ai_SentenceText : an_CP am_SentenceText_init 6 4 5 3052 am_L6 (fun _ => True) := by
  refine an_CP.of (by decide) rfl rfl [.null, .int 0, .int 0, .int 0, .null, .int 0, .int 0] rfl fun p l e s m args below meth c G A h0 r hO hAe hin hrs hr0 hwf => ?_
  refine an_Dal (pc := 0) ad_SentenceText_init_0 hr0 ?_
  refine an_Dobj (pc := 1) ad_SentenceText_init_1 (am_t 391 (by decide +kernel) (by decide +kernel)) am_oi am_oc hrs (Nat.le_of_ble_eq_true rfl) (Nat.le_of_ble_eq_true rfl) (Nat.le_of_ble_eq_true rfl) ?_
  refine an_Dal (pc := 4) ad_SentenceText_init_4 hr0 ?_
  refine an_Dnew (pc := 5) (n0 := 0) (T := am_T8) (ty := am_y8) hO ai_Tokens rfl (by decide +kernel) ad_SentenceText_init_5 ad_SentenceText_init_8 ad_SentenceText_init_9 rfl am_uw8 am_p8 an_df8 (am_t 392 (by decide +kernel) (by decide +kernel)) (am_t 275 (by decide +kernel) (by decide +kernel)) (am_t 8 (by decide +kernel) (by decide +kernel)) (am_t 278 (by decide +kernel) (by decide +kernel)) rfl (Or.inr (List.mem_of_getElem? (i := 6) rfl)) (am_t 277 (by decide +kernel) (by decide +kernel)) rfl ⟨by decide, by decide, by decide +kernel⟩ (Nat.le_of_ble_eq_true rfl) (Nat.le_of_ble_eq_true rfl) (Nat.le_of_ble_eq_true rfl) (Nat.le_of_ble_eq_true rfl) (Nat.le_of_ble_eq_true rfl) hrs (Nat.le_of_ble_eq_true rfl) fun a0 g0 z0 => ?_
  refine an_Dpf (pc := 12) (fty := .object "NightHelp$Tokens") (fs1 := [.ref (a0 0), .int 0, .int 0, .int 0, .null, .int 0, .int 0]) hin rfl ad_SentenceText_init_12 am_f6_0 am_fl_SentenceText_12 (by decide +kernel) rfl rfl (Nat.le_of_ble_eq_true rfl) rfl ?_
  refine an_Dal (pc := 15) ad_SentenceText_init_15 hr0 ?_
  refine an_Dic (pc := 16) ad_SentenceText_init_16 ?_
  refine an_Dpn (pc := 17) (fty := .int) (fs1 := [.ref (a0 0), .int (Int32.ofInt 0), .int 0, .int 0, .null, .int 0, .int 0]) ad_SentenceText_init_17 am_f6_1 am_fl_SentenceText_18 (by decide +kernel) rfl rfl (Nat.le_of_ble_eq_true rfl) rfl ?_
  refine an_Dal (pc := 20) ad_SentenceText_init_20 hr0 ?_
  refine an_Dic (pc := 21) ad_SentenceText_init_21 ?_
  refine an_Dpn (pc := 22) (fty := .int) (fs1 := [.ref (a0 0), .int (Int32.ofInt 0), .int (Int32.ofInt 0), .int 0, .null, .int 0, .int 0]) ad_SentenceText_init_22 am_f6_2 am_fl_SentenceText_22 (by decide +kernel) rfl rfl (Nat.le_of_ble_eq_true rfl) rfl ?_
  refine an_Dal (pc := 25) ad_SentenceText_init_25 hr0 ?_
  refine an_Dic (pc := 26) ad_SentenceText_init_26 ?_
  refine an_Dpn (pc := 27) (fty := .int) (fs1 := [.ref (a0 0), .int (Int32.ofInt 0), .int (Int32.ofInt 0), .int (Int32.ofInt 0), .null, .int 0, .int 0]) ad_SentenceText_init_27 am_f6_3 am_fl_SentenceText_25 (by decide +kernel) rfl rfl (Nat.le_of_ble_eq_true rfl) rfl ?_
  refine an_Dal (pc := 30) ad_SentenceText_init_30 hr0 ?_
  refine an_Dbi (pc := 31) ad_SentenceText_init_31 ⟨by decide, by decide⟩ ?_
  refine an_Dna (pc := 33) (n0 := 4) (K := 14) (n := 40) (t0 := 1) (ty := .int) (atype := .int) (a0 := (40, .inl (fun _ => 0))) rfl (by decide +kernel) ad_SentenceText_init_33 rfl am_ai (fun _ => rfl) (an_na14 40) (fun _ => rfl) (by decide) (by decide) (Nat.le_of_ble_eq_true rfl) (Nat.le_of_ble_eq_true rfl) (Nat.le_of_ble_eq_true rfl) fun q1 => ?_
  refine an_Dpf (pc := 35) (fty := .array .int) (fs1 := [.ref (a0 0), .int (Int32.ofInt 0), .int (Int32.ofInt 0), .int (Int32.ofInt 0), .ref q1, .int 0, .int 0]) hin rfl ad_SentenceText_init_35 am_f6_4 am_fl_SentenceText_28 (by decide +kernel) rfl rfl (Nat.le_of_ble_eq_true rfl) rfl ?_
  refine an_Dal (pc := 38) ad_SentenceText_init_38 hr0 ?_
  refine an_Dic (pc := 39) ad_SentenceText_init_39 ?_
  refine an_Dpn (pc := 40) (fty := .int) (fs1 := [.ref (a0 0), .int (Int32.ofInt 0), .int (Int32.ofInt 0), .int (Int32.ofInt 0), .ref q1, .int (Int32.ofInt 0), .int 0]) ad_SentenceText_init_40 am_f6_5 am_fl_SentenceText_32 (by decide +kernel) rfl rfl (Nat.le_of_ble_eq_true rfl) rfl ?_
  refine an_Dal (pc := 43) ad_SentenceText_init_43 hr0 ?_
  refine an_Dic (pc := 44) ad_SentenceText_init_44 ?_
  refine an_Dpn (pc := 45) (fty := .int) (fs1 := [.ref (a0 0), .int (Int32.ofInt 0), .int (Int32.ofInt 0), .int (Int32.ofInt 0), .ref q1, .int (Int32.ofInt 0), .int (Int32.ofInt 0)]) ad_SentenceText_init_45 am_f6_6 am_fl_SentenceText_35 (by decide +kernel) rfl rfl (Nat.le_of_ble_eq_true rfl) rfl ?_
  refine an_Dfin (fun _ => 0) (fun _ => am_rg_0 _) (Nat.le_of_ble_eq_true rfl) rfl ?_
  refine an_DY (Y' := am_L6) rfl ?_
  exact an_Dret hAe ad_SentenceText_init_48 rfl rfl trivial (Nat.le_of_ble_eq_true rfl) (Nat.le_of_ble_eq_true rfl)
theorem ad_Run_init_0 : decode prog_7_method_1_code 0 = .ok (.aload_n 0, 1) := by decide +kernel
theorem ad_Run_init_1 : decode prog_7_method_1_code 1 = .ok (.invokespecial 3, 3) := by decide +kernel
theorem ad_Run_init_4 : decode prog_7_method_1_code 4 = .ok (.aload_n 0, 1) := by decide +kernel
theorem ad_Run_init_5 : decode prog_7_method_1_code 5 = .ok (.iconst 0, 1) := by decide +kernel
theorem ad_Run_init_6 : decode prog_7_method_1_code 6 = .ok (.putfield 9, 3) := by decide +kernel
theorem ad_Run_init_9 : decode prog_7_method_1_code 9 = .ok (.aload_n 0, 1) := by decide +kernel
theorem ad_Run_init_10 : decode prog_7_method_1_code 10 = .ok (.iconst 0, 1) := by decide +kernel
theorem ad_Run_init_11 : decode prog_7_method_1_code 11 = .ok (.putfield 15, 3) := by decide +kernel
theorem ad_Run_init_14 : decode prog_7_method_1_code 14 = .ok (.aload_n 0, 1) := by decide +kernel
theorem ad_Run_init_15 : decode prog_7_method_1_code 15 = .ok (.bipush 8, 2) := by decide +kernel
theorem ad_Run_init_17 : decode prog_7_method_1_code 17 = .ok (.newarray .int, 2) := by decide +kernel
theorem ad_Run_init_19 : decode prog_7_method_1_code 19 = .ok (.putfield 19, 3) := by decide +kernel
theorem ad_Run_init_22 : decode prog_7_method_1_code 22 = .ok (.aload_n 0, 1) := by decide +kernel
theorem ad_Run_init_23 : decode prog_7_method_1_code 23 = .ok (.bipush 8, 2) := by decide +kernel
theorem ad_Run_init_25 : decode prog_7_method_1_code 25 = .ok (.newarray .int, 2) := by decide +kernel
theorem ad_Run_init_27 : decode prog_7_method_1_code 27 = .ok (.putfield 23, 3) := by decide +kernel
theorem ad_Run_init_30 : decode prog_7_method_1_code 30 = .ok (.aload_n 0, 1) := by decide +kernel
theorem ad_Run_init_31 : decode prog_7_method_1_code 31 = .ok (.new 26, 3) := by decide +kernel
theorem ad_Run_init_34 : decode prog_7_method_1_code 34 = .ok (.dup, 1) := by decide +kernel
theorem ad_Run_init_35 : decode prog_7_method_1_code 35 = .ok (.invokespecial 28, 3) := by decide +kernel
theorem ad_Run_init_38 : decode prog_7_method_1_code 38 = .ok (.putfield 29, 3) := by decide +kernel
theorem ad_Run_init_41 : decode prog_7_method_1_code 41 = .ok (.aload_n 0, 1) := by decide +kernel
theorem ad_Run_init_42 : decode prog_7_method_1_code 42 = .ok (.bipush 8, 2) := by decide +kernel
theorem ad_Run_init_44 : decode prog_7_method_1_code 44 = .ok (.newarray .int, 2) := by decide +kernel
theorem ad_Run_init_46 : decode prog_7_method_1_code 46 = .ok (.putfield 33, 3) := by decide +kernel
theorem ad_Run_init_49 : decode prog_7_method_1_code 49 = .ok (.aload_n 0, 1) := by decide +kernel
theorem ad_Run_init_50 : decode prog_7_method_1_code 50 = .ok (.bipush 8, 2) := by decide +kernel
theorem ad_Run_init_52 : decode prog_7_method_1_code 52 = .ok (.newarray .int, 2) := by decide +kernel
theorem ad_Run_init_54 : decode prog_7_method_1_code 54 = .ok (.putfield 36, 3) := by decide +kernel
theorem ad_Run_init_57 : decode prog_7_method_1_code 57 = .ok (.aload_n 0, 1) := by decide +kernel
theorem ad_Run_init_58 : decode prog_7_method_1_code 58 = .ok (.new 39, 3) := by decide +kernel
theorem ad_Run_init_61 : decode prog_7_method_1_code 61 = .ok (.dup, 1) := by decide +kernel
theorem ad_Run_init_62 : decode prog_7_method_1_code 62 = .ok (.invokespecial 41, 3) := by decide +kernel
theorem ad_Run_init_65 : decode prog_7_method_1_code 65 = .ok (.putfield 42, 3) := by decide +kernel
theorem ad_Run_init_68 : decode prog_7_method_1_code 68 = .ok (.aload_n 0, 1) := by decide +kernel
theorem ad_Run_init_69 : decode prog_7_method_1_code 69 = .ok (.new 46, 3) := by decide +kernel
theorem ad_Run_init_72 : decode prog_7_method_1_code 72 = .ok (.dup, 1) := by decide +kernel
theorem ad_Run_init_73 : decode prog_7_method_1_code 73 = .ok (.invokespecial 48, 3) := by decide +kernel
theorem ad_Run_init_76 : decode prog_7_method_1_code 76 = .ok (.putfield 49, 3) := by decide +kernel
theorem ad_Run_init_79 : decode prog_7_method_1_code 79 = .ok (.aload_n 0, 1) := by decide +kernel
theorem ad_Run_init_80 : decode prog_7_method_1_code 80 = .ok (.sipush 384, 3) := by decide +kernel
theorem ad_Run_init_83 : decode prog_7_method_1_code 83 = .ok (.newarray .long, 2) := by decide +kernel
theorem ad_Run_init_85 : decode prog_7_method_1_code 85 = .ok (.putfield 53, 3) := by decide +kernel
theorem ad_Run_init_88 : decode prog_7_method_1_code 88 = .ok (.aload_n 0, 1) := by decide +kernel
theorem ad_Run_init_89 : decode prog_7_method_1_code 89 = .ok (.sipush 384, 3) := by decide +kernel
theorem ad_Run_init_92 : decode prog_7_method_1_code 92 = .ok (.newarray .long, 2) := by decide +kernel
theorem ad_Run_init_94 : decode prog_7_method_1_code 94 = .ok (.putfield 57, 3) := by decide +kernel
theorem ad_Run_init_97 : decode prog_7_method_1_code 97 = .ok (.aload_n 0, 1) := by decide +kernel
theorem ad_Run_init_98 : decode prog_7_method_1_code 98 = .ok (.iconst 0, 1) := by decide +kernel
theorem ad_Run_init_99 : decode prog_7_method_1_code 99 = .ok (.putfield 60, 3) := by decide +kernel
theorem ad_Run_init_102 : decode prog_7_method_1_code 102 = .ok (.return_, 1) := by decide +kernel
theorem an_df5 : ∀ j, j < 12 → defaultValue (am_y5 j) = vp_V (an_f0 (am_fk 5)) j := by decide +kernel
theorem ai_Run : an_CP am_Run_init 5 8 23 2319 am_L5 (fun h => h 0 = fun _ => 0) := by
  refine an_CP.of (by decide) rfl rfl [.int 0, .int 0, .null, .null, .null, .null, .null, .null, .null, .null, .null, .int 0] rfl fun p l e s m args below meth c G A h0 r hO hAe hin hrs hr0 hwf => ?_
  refine an_Dal (pc := 0) ad_Run_init_0 hr0 ?_
  refine an_Dobj (pc := 1) ad_Run_init_1 (am_t 447 (by decide +kernel) (by decide +kernel)) am_oi am_oc hrs (Nat.le_of_ble_eq_true rfl) (Nat.le_of_ble_eq_true rfl) (Nat.le_of_ble_eq_true rfl) ?_
  refine an_Dal (pc := 4) ad_Run_init_4 hr0 ?_
  refine an_Dic (pc := 5) ad_Run_init_5 ?_
  refine an_Dpn (pc := 6) (fty := .boolean) (fs1 := [.int (Int32.ofInt 0), .int 0, .null, .null, .null, .null, .null, .null, .null, .null, .null, .int 0]) ad_Run_init_6 am_f5_0 am_fl_Run_9 (by decide +kernel) rfl rfl (Nat.le_of_ble_eq_true rfl) rfl ?_
  refine an_Dal (pc := 9) ad_Run_init_9 hr0 ?_
  refine an_Dic (pc := 10) ad_Run_init_10 ?_
  refine an_Dpn (pc := 11) (fty := .int) (fs1 := [.int (Int32.ofInt 0), .int (Int32.ofInt 0), .null, .null, .null, .null, .null, .null, .null, .null, .null, .int 0]) ad_Run_init_11 am_f5_1 am_fl_Run_15 (by decide +kernel) rfl rfl (Nat.le_of_ble_eq_true rfl) rfl ?_
  refine an_Dal (pc := 14) ad_Run_init_14 hr0 ?_
  refine an_Dbi (pc := 15) ad_Run_init_15 ⟨by decide, by decide⟩ ?_
  refine an_Dna (pc := 17) (n0 := 0) (K := 14) (n := 8) (t0 := 1) (ty := .int) (atype := .int) (a0 := (8, .inl (fun _ => 0))) rfl (by decide +kernel) ad_Run_init_17 rfl am_ai (fun _ => rfl) (an_na14 8) (fun _ => rfl) (by decide) (by decide) (Nat.le_of_ble_eq_true rfl) (Nat.le_of_ble_eq_true rfl) (Nat.le_of_ble_eq_true rfl) fun q0 => ?_
  refine an_Dpf (pc := 19) (fty := .array .int) (fs1 := [.int (Int32.ofInt 0), .int (Int32.ofInt 0), .ref q0, .null, .null, .null, .null, .null, .null, .null, .null, .int 0]) hin rfl ad_Run_init_19 am_f5_2 am_fl_Run_19 (by decide +kernel) rfl rfl (Nat.le_of_ble_eq_true rfl) rfl ?_
  refine an_Dal (pc := 22) ad_Run_init_22 hr0 ?_
  refine an_Dbi (pc := 23) ad_Run_init_23 ⟨by decide, by decide⟩ ?_
  refine an_Dna (pc := 25) (n0 := 1) (K := 14) (n := 8) (t0 := 1) (ty := .int) (atype := .int) (a0 := (8, .inl (fun _ => 0))) rfl (by decide +kernel) ad_Run_init_25 rfl am_ai (fun _ => rfl) (an_na14 8) (fun _ => rfl) (by decide) (by decide) (Nat.le_of_ble_eq_true rfl) (Nat.le_of_ble_eq_true rfl) (Nat.le_of_ble_eq_true rfl) fun q1 => ?_
  refine an_Dpf (pc := 27) (fty := .array .int) (fs1 := [.int (Int32.ofInt 0), .int (Int32.ofInt 0), .ref q0, .ref q1, .null, .null, .null, .null, .null, .null, .null, .int 0]) hin rfl ad_Run_init_27 am_f5_3 am_fl_Run_23 (by decide +kernel) rfl rfl (Nat.le_of_ble_eq_true rfl) rfl ?_
  refine an_Dal (pc := 30) ad_Run_init_30 hr0 ?_
  refine an_Dnew (pc := 31) (n0 := 2) (T := am_T9) (ty := am_y9) hO ai_Village rfl (by decide +kernel) ad_Run_init_31 ad_Run_init_34 ad_Run_init_35 rfl am_uw9 am_p9 an_df9 (am_t 448 (by decide +kernel) (by decide +kernel)) (am_t 40 (by decide +kernel) (by decide +kernel)) (am_t 3 (by decide +kernel) (by decide +kernel)) (am_t 43 (by decide +kernel) (by decide +kernel)) rfl (Or.inl (am_t 449 (by decide +kernel) (by decide +kernel))) (am_t 42 (by decide +kernel) (by decide +kernel)) rfl ⟨by decide, by decide, by decide +kernel⟩ (Nat.le_of_ble_eq_true rfl) (Nat.le_of_ble_eq_true rfl) (Nat.le_of_ble_eq_true rfl) (Nat.le_of_ble_eq_true rfl) (Nat.le_of_ble_eq_true rfl) hrs (Nat.le_of_ble_eq_true rfl) fun a2 g2 z2 => ?_
  refine an_Dpf (pc := 38) (fty := .object "NightHelp$Village") (fs1 := [.int (Int32.ofInt 0), .int (Int32.ofInt 0), .ref q0, .ref q1, .ref (a2 0), .null, .null, .null, .null, .null, .null, .int 0]) hin rfl ad_Run_init_38 am_f5_4 am_fl_Run_29 (by decide +kernel) rfl rfl (Nat.le_of_ble_eq_true rfl) rfl ?_
  refine an_Dal (pc := 41) ad_Run_init_41 hr0 ?_
  refine an_Dbi (pc := 42) ad_Run_init_42 ⟨by decide, by decide⟩ ?_
  refine an_Dna (pc := 44) (n0 := 13) (K := 14) (n := 8) (t0 := 1) (ty := .int) (atype := .int) (a0 := (8, .inl (fun _ => 0))) rfl (by decide +kernel) ad_Run_init_44 rfl am_ai (fun _ => rfl) (an_na14 8) (fun _ => rfl) (by decide) (by decide) (Nat.le_of_ble_eq_true rfl) (Nat.le_of_ble_eq_true rfl) (Nat.le_of_ble_eq_true rfl) fun q3 => ?_
  refine an_Dpf (pc := 46) (fty := .array .int) (fs1 := [.int (Int32.ofInt 0), .int (Int32.ofInt 0), .ref q0, .ref q1, .ref (a2 0), .ref q3, .null, .null, .null, .null, .null, .int 0]) hin rfl ad_Run_init_46 am_f5_5 am_fl_Run_33 (by decide +kernel) rfl rfl (Nat.le_of_ble_eq_true rfl) rfl ?_
  refine an_Dal (pc := 49) ad_Run_init_49 hr0 ?_
  refine an_Dbi (pc := 50) ad_Run_init_50 ⟨by decide, by decide⟩ ?_
  refine an_Dna (pc := 52) (n0 := 14) (K := 14) (n := 8) (t0 := 1) (ty := .int) (atype := .int) (a0 := (8, .inl (fun _ => 0))) rfl (by decide +kernel) ad_Run_init_52 rfl am_ai (fun _ => rfl) (an_na14 8) (fun _ => rfl) (by decide) (by decide) (Nat.le_of_ble_eq_true rfl) (Nat.le_of_ble_eq_true rfl) (Nat.le_of_ble_eq_true rfl) fun q4 => ?_
  refine an_Dpf (pc := 54) (fty := .array .int) (fs1 := [.int (Int32.ofInt 0), .int (Int32.ofInt 0), .ref q0, .ref q1, .ref (a2 0), .ref q3, .ref q4, .null, .null, .null, .null, .int 0]) hin rfl ad_Run_init_54 am_f5_6 am_fl_Run_36 (by decide +kernel) rfl rfl (Nat.le_of_ble_eq_true rfl) rfl ?_
  refine an_Dal (pc := 57) ad_Run_init_57 hr0 ?_
  refine an_Dnew (pc := 58) (n0 := 15) (T := am_T1) (ty := am_y1) hO ai_Bonds rfl (by decide +kernel) ad_Run_init_58 ad_Run_init_61 ad_Run_init_62 rfl am_uw1 am_p1 an_df1 (am_t 450 (by decide +kernel) (by decide +kernel)) (am_t 166 (by decide +kernel) (by decide +kernel)) (am_t 6 (by decide +kernel) (by decide +kernel)) (am_t 169 (by decide +kernel) (by decide +kernel)) rfl (Or.inl (am_t 451 (by decide +kernel) (by decide +kernel))) (am_t 168 (by decide +kernel) (by decide +kernel)) rfl ⟨by decide, by decide, by decide +kernel⟩ (Nat.le_of_ble_eq_true rfl) (Nat.le_of_ble_eq_true rfl) (Nat.le_of_ble_eq_true rfl) (Nat.le_of_ble_eq_true rfl) (Nat.le_of_ble_eq_true rfl) hrs (Nat.le_of_ble_eq_true rfl) fun a5 g5 z5 => ?_
  refine an_Dpf (pc := 65) (fty := .object "NightHelp$Bonds") (fs1 := [.int (Int32.ofInt 0), .int (Int32.ofInt 0), .ref q0, .ref q1, .ref (a2 0), .ref q3, .ref q4, .ref (a5 0), .null, .null, .null, .int 0]) hin rfl ad_Run_init_65 am_f5_7 am_fl_Run_42 (by decide +kernel) rfl rfl (Nat.le_of_ble_eq_true rfl) rfl ?_
  refine an_Dal (pc := 68) ad_Run_init_68 hr0 ?_
  refine an_Dnew (pc := 69) (n0 := 18) (T := am_T0) (ty := am_y0) hO ai_Best rfl (by decide +kernel) ad_Run_init_69 ad_Run_init_72 ad_Run_init_73 rfl am_uw0 am_p0 an_df0 (am_t 452 (by decide +kernel) (by decide +kernel)) (am_t 420 (by decide +kernel) (by decide +kernel)) (am_t 11 (by decide +kernel) (by decide +kernel)) (am_t 423 (by decide +kernel) (by decide +kernel)) rfl (Or.inr (List.mem_of_getElem? (i := 9) rfl)) (am_t 422 (by decide +kernel) (by decide +kernel)) rfl ⟨by decide, by decide, by decide +kernel⟩ (Nat.le_of_ble_eq_true rfl) (Nat.le_of_ble_eq_true rfl) (Nat.le_of_ble_eq_true rfl) (Nat.le_of_ble_eq_true rfl) (Nat.le_of_ble_eq_true rfl) hrs (Nat.le_of_ble_eq_true rfl) fun a6 g6 z6 => ?_
  refine an_Dpf (pc := 76) (fty := .object "NightHelp$Best") (fs1 := [.int (Int32.ofInt 0), .int (Int32.ofInt 0), .ref q0, .ref q1, .ref (a2 0), .ref q3, .ref q4, .ref (a5 0), .ref (a6 0), .null, .null, .int 0]) hin rfl ad_Run_init_76 am_f5_8 am_fl_Run_49 (by decide +kernel) rfl rfl (Nat.le_of_ble_eq_true rfl) rfl ?_
  refine an_Dal (pc := 79) ad_Run_init_79 hr0 ?_
  refine an_Dsi (pc := 80) ad_Run_init_80 ⟨by decide, by decide⟩ ?_
  refine an_Dna (pc := 83) (n0 := 21) (K := 15) (n := 384) (t0 := 2) (ty := .long) (atype := .long) (a0 := (384, .inr (.inl (fun _ => 0)))) rfl (by decide +kernel) ad_Run_init_83 rfl am_aj (fun _ => rfl) (an_na15 384) (fun _ => rfl) (by decide) (by decide) (Nat.le_of_ble_eq_true rfl) (Nat.le_of_ble_eq_true rfl) (Nat.le_of_ble_eq_true rfl) fun q7 => ?_
  refine an_Dpf (pc := 85) (fty := .array .long) (fs1 := [.int (Int32.ofInt 0), .int (Int32.ofInt 0), .ref q0, .ref q1, .ref (a2 0), .ref q3, .ref q4, .ref (a5 0), .ref (a6 0), .ref q7, .null, .int 0]) hin rfl ad_Run_init_85 am_f5_9 am_fl_Run_53 (by decide +kernel) rfl rfl (Nat.le_of_ble_eq_true rfl) rfl ?_
  refine an_Dal (pc := 88) ad_Run_init_88 hr0 ?_
  refine an_Dsi (pc := 89) ad_Run_init_89 ⟨by decide, by decide⟩ ?_
  refine an_Dna (pc := 92) (n0 := 22) (K := 15) (n := 384) (t0 := 2) (ty := .long) (atype := .long) (a0 := (384, .inr (.inl (fun _ => 0)))) rfl (by decide +kernel) ad_Run_init_92 rfl am_aj (fun _ => rfl) (an_na15 384) (fun _ => rfl) (by decide) (by decide) (Nat.le_of_ble_eq_true rfl) (Nat.le_of_ble_eq_true rfl) (Nat.le_of_ble_eq_true rfl) fun q8 => ?_
  refine an_Dpf (pc := 94) (fty := .array .long) (fs1 := [.int (Int32.ofInt 0), .int (Int32.ofInt 0), .ref q0, .ref q1, .ref (a2 0), .ref q3, .ref q4, .ref (a5 0), .ref (a6 0), .ref q7, .ref q8, .int 0]) hin rfl ad_Run_init_94 am_f5_10 am_fl_Run_57 (by decide +kernel) rfl rfl (Nat.le_of_ble_eq_true rfl) rfl ?_
  refine an_Dal (pc := 97) ad_Run_init_97 hr0 ?_
  refine an_Dic (pc := 98) ad_Run_init_98 ?_
  refine an_Dpn (pc := 99) (fty := .int) (fs1 := [.int (Int32.ofInt 0), .int (Int32.ofInt 0), .ref q0, .ref q1, .ref (a2 0), .ref q3, .ref q4, .ref (a5 0), .ref (a6 0), .ref q7, .ref q8, .int (Int32.ofInt 0)]) ad_Run_init_99 am_f5_11 am_fl_Run_60 (by decide +kernel) rfl rfl (Nat.le_of_ble_eq_true rfl) rfl ?_
  refine an_Dfin (fun _ => 0) (fun _ => am_rg_0 _) (Nat.le_of_ble_eq_true rfl) rfl ?_
  refine an_DY (Y' := am_L5) rfl ?_
  exact an_Dret hAe ad_Run_init_102 rfl rfl rfl (Nat.le_of_ble_eq_true rfl) (Nat.le_of_ble_eq_true rfl)
theorem ad_Left_init_0 : decode prog_6_method_1_code 0 = .ok (.aload_n 0, 1) := by decide +kernel
theorem ad_Left_init_1 : decode prog_6_method_1_code 1 = .ok (.invokespecial 3, 3) := by decide +kernel
theorem ad_Left_init_4 : decode prog_6_method_1_code 4 = .ok (.aload_n 0, 1) := by decide +kernel
theorem ad_Left_init_5 : decode prog_6_method_1_code 5 = .ok (.iconst 0, 1) := by decide +kernel
theorem ad_Left_init_6 : decode prog_6_method_1_code 6 = .ok (.putfield 9, 3) := by decide +kernel
theorem ad_Left_init_9 : decode prog_6_method_1_code 9 = .ok (.aload_n 0, 1) := by decide +kernel
theorem ad_Left_init_10 : decode prog_6_method_1_code 10 = .ok (.bipush 48, 2) := by decide +kernel
theorem ad_Left_init_12 : decode prog_6_method_1_code 12 = .ok (.newarray .int, 2) := by decide +kernel
theorem ad_Left_init_14 : decode prog_6_method_1_code 14 = .ok (.putfield 15, 3) := by decide +kernel
theorem ad_Left_init_17 : decode prog_6_method_1_code 17 = .ok (.aload_n 0, 1) := by decide +kernel
theorem ad_Left_init_18 : decode prog_6_method_1_code 18 = .ok (.iconst 0, 1) := by decide +kernel
theorem ad_Left_init_19 : decode prog_6_method_1_code 19 = .ok (.putfield 19, 3) := by decide +kernel
theorem ad_Left_init_22 : decode prog_6_method_1_code 22 = .ok (.aload_n 0, 1) := by decide +kernel
theorem ad_Left_init_23 : decode prog_6_method_1_code 23 = .ok (.bipush 48, 2) := by decide +kernel
theorem ad_Left_init_25 : decode prog_6_method_1_code 25 = .ok (.newarray .int, 2) := by decide +kernel
theorem ad_Left_init_27 : decode prog_6_method_1_code 27 = .ok (.putfield 22, 3) := by decide +kernel
theorem ad_Left_init_30 : decode prog_6_method_1_code 30 = .ok (.aload_n 0, 1) := by decide +kernel
theorem ad_Left_init_31 : decode prog_6_method_1_code 31 = .ok (.bipush 8, 2) := by decide +kernel
theorem ad_Left_init_33 : decode prog_6_method_1_code 33 = .ok (.newarray .int, 2) := by decide +kernel
theorem ad_Left_init_35 : decode prog_6_method_1_code 35 = .ok (.putfield 25, 3) := by decide +kernel
theorem ad_Left_init_38 : decode prog_6_method_1_code 38 = .ok (.aload_n 0, 1) := by decide +kernel
theorem ad_Left_init_39 : decode prog_6_method_1_code 39 = .ok (.bipush 48, 2) := by decide +kernel
theorem ad_Left_init_41 : decode prog_6_method_1_code 41 = .ok (.newarray .int, 2) := by decide +kernel
theorem ad_Left_init_43 : decode prog_6_method_1_code 43 = .ok (.putfield 28, 3) := by decide +kernel
theorem ad_Left_init_46 : decode prog_6_method_1_code 46 = .ok (.aload_n 0, 1) := by decide +kernel
theorem ad_Left_init_47 : decode prog_6_method_1_code 47 = .ok (.bipush 8, 2) := by decide +kernel
theorem ad_Left_init_49 : decode prog_6_method_1_code 49 = .ok (.newarray .int, 2) := by decide +kernel
theorem ad_Left_init_51 : decode prog_6_method_1_code 51 = .ok (.putfield 31, 3) := by decide +kernel
theorem ad_Left_init_54 : decode prog_6_method_1_code 54 = .ok (.aload_n 0, 1) := by decide +kernel
theorem ad_Left_init_55 : decode prog_6_method_1_code 55 = .ok (.bipush 8, 2) := by decide +kernel
theorem ad_Left_init_57 : decode prog_6_method_1_code 57 = .ok (.newarray .int, 2) := by decide +kernel
theorem ad_Left_init_59 : decode prog_6_method_1_code 59 = .ok (.putfield 34, 3) := by decide +kernel
theorem ad_Left_init_62 : decode prog_6_method_1_code 62 = .ok (.aload_n 0, 1) := by decide +kernel
theorem ad_Left_init_63 : decode prog_6_method_1_code 63 = .ok (.iconst 0, 1) := by decide +kernel
theorem ad_Left_init_64 : decode prog_6_method_1_code 64 = .ok (.putfield 37, 3) := by decide +kernel
theorem ad_Left_init_67 : decode prog_6_method_1_code 67 = .ok (.aload_n 0, 1) := by decide +kernel
theorem ad_Left_init_68 : decode prog_6_method_1_code 68 = .ok (.iconst 0, 1) := by decide +kernel
theorem ad_Left_init_69 : decode prog_6_method_1_code 69 = .ok (.putfield 40, 3) := by decide +kernel
theorem ad_Left_init_72 : decode prog_6_method_1_code 72 = .ok (.aload_n 0, 1) := by decide +kernel
theorem ad_Left_init_73 : decode prog_6_method_1_code 73 = .ok (.bipush 8, 2) := by decide +kernel
theorem ad_Left_init_75 : decode prog_6_method_1_code 75 = .ok (.newarray .int, 2) := by decide +kernel
theorem ad_Left_init_77 : decode prog_6_method_1_code 77 = .ok (.putfield 43, 3) := by decide +kernel
theorem ad_Left_init_80 : decode prog_6_method_1_code 80 = .ok (.return_, 1) := by decide +kernel
theorem an_df4 : ∀ j, j < 11 → defaultValue (am_y4 j) = vp_V (an_f0 (am_fk 4)) j := by decide +kernel
theorem ai_Left : an_CP am_Left_init 4 2 7 176 am_L4 (fun h => h 0 = fun _ => 0) := by
  refine an_CP.of (by decide) rfl rfl [.int 0, .null, .int 0, .null, .null, .null, .null, .null, .int 0, .int 0, .null] rfl fun p l e s m args below meth c G A h0 r hO hAe hin hrs hr0 hwf => ?_
  refine an_Dal (pc := 0) ad_Left_init_0 hr0 ?_
  refine an_Dobj (pc := 1) ad_Left_init_1 (am_t 499 (by decide +kernel) (by decide +kernel)) am_oi am_oc hrs (Nat.le_of_ble_eq_true rfl) (Nat.le_of_ble_eq_true rfl) (Nat.le_of_ble_eq_true rfl) ?_
  refine an_Dal (pc := 4) ad_Left_init_4 hr0 ?_
  refine an_Dic (pc := 5) ad_Left_init_5 ?_
  refine an_Dpn (pc := 6) (fty := .int) (fs1 := [.int (Int32.ofInt 0), .null, .int 0, .null, .null, .null, .null, .null, .int 0, .int 0, .null]) ad_Left_init_6 am_f4_0 am_fl_Left_9 (by decide +kernel) rfl rfl (Nat.le_of_ble_eq_true rfl) rfl ?_
  refine an_Dal (pc := 9) ad_Left_init_9 hr0 ?_
  refine an_Dbi (pc := 10) ad_Left_init_10 ⟨by decide, by decide⟩ ?_
  refine an_Dna (pc := 12) (n0 := 0) (K := 14) (n := 48) (t0 := 1) (ty := .int) (atype := .int) (a0 := (48, .inl (fun _ => 0))) rfl (by decide +kernel) ad_Left_init_12 rfl am_ai (fun _ => rfl) (an_na14 48) (fun _ => rfl) (by decide) (by decide) (Nat.le_of_ble_eq_true rfl) (Nat.le_of_ble_eq_true rfl) (Nat.le_of_ble_eq_true rfl) fun q0 => ?_
  refine an_Dpf (pc := 14) (fty := .array .int) (fs1 := [.int (Int32.ofInt 0), .ref q0, .int 0, .null, .null, .null, .null, .null, .int 0, .int 0, .null]) hin rfl ad_Left_init_14 am_f4_1 am_fl_Left_15 (by decide +kernel) rfl rfl (Nat.le_of_ble_eq_true rfl) rfl ?_
  refine an_Dal (pc := 17) ad_Left_init_17 hr0 ?_
  refine an_Dic (pc := 18) ad_Left_init_18 ?_
  refine an_Dpn (pc := 19) (fty := .int) (fs1 := [.int (Int32.ofInt 0), .ref q0, .int (Int32.ofInt 0), .null, .null, .null, .null, .null, .int 0, .int 0, .null]) ad_Left_init_19 am_f4_2 am_fl_Left_19 (by decide +kernel) rfl rfl (Nat.le_of_ble_eq_true rfl) rfl ?_
  refine an_Dal (pc := 22) ad_Left_init_22 hr0 ?_
  refine an_Dbi (pc := 23) ad_Left_init_23 ⟨by decide, by decide⟩ ?_
  refine an_Dna (pc := 25) (n0 := 1) (K := 14) (n := 48) (t0 := 1) (ty := .int) (atype := .int) (a0 := (48, .inl (fun _ => 0))) rfl (by decide +kernel) ad_Left_init_25 rfl am_ai (fun _ => rfl) (an_na14 48) (fun _ => rfl) (by decide) (by decide) (Nat.le_of_ble_eq_true rfl) (Nat.le_of_ble_eq_true rfl) (Nat.le_of_ble_eq_true rfl) fun q1 => ?_
  refine an_Dpf (pc := 27) (fty := .array .int) (fs1 := [.int (Int32.ofInt 0), .ref q0, .int (Int32.ofInt 0), .ref q1, .null, .null, .null, .null, .int 0, .int 0, .null]) hin rfl ad_Left_init_27 am_f4_3 am_fl_Left_22 (by decide +kernel) rfl rfl (Nat.le_of_ble_eq_true rfl) rfl ?_
  refine an_Dal (pc := 30) ad_Left_init_30 hr0 ?_
  refine an_Dbi (pc := 31) ad_Left_init_31 ⟨by decide, by decide⟩ ?_
  refine an_Dna (pc := 33) (n0 := 2) (K := 14) (n := 8) (t0 := 1) (ty := .int) (atype := .int) (a0 := (8, .inl (fun _ => 0))) rfl (by decide +kernel) ad_Left_init_33 rfl am_ai (fun _ => rfl) (an_na14 8) (fun _ => rfl) (by decide) (by decide) (Nat.le_of_ble_eq_true rfl) (Nat.le_of_ble_eq_true rfl) (Nat.le_of_ble_eq_true rfl) fun q2 => ?_
  refine an_Dpf (pc := 35) (fty := .array .int) (fs1 := [.int (Int32.ofInt 0), .ref q0, .int (Int32.ofInt 0), .ref q1, .ref q2, .null, .null, .null, .int 0, .int 0, .null]) hin rfl ad_Left_init_35 am_f4_4 am_fl_Left_25 (by decide +kernel) rfl rfl (Nat.le_of_ble_eq_true rfl) rfl ?_
  refine an_Dal (pc := 38) ad_Left_init_38 hr0 ?_
  refine an_Dbi (pc := 39) ad_Left_init_39 ⟨by decide, by decide⟩ ?_
  refine an_Dna (pc := 41) (n0 := 3) (K := 14) (n := 48) (t0 := 1) (ty := .int) (atype := .int) (a0 := (48, .inl (fun _ => 0))) rfl (by decide +kernel) ad_Left_init_41 rfl am_ai (fun _ => rfl) (an_na14 48) (fun _ => rfl) (by decide) (by decide) (Nat.le_of_ble_eq_true rfl) (Nat.le_of_ble_eq_true rfl) (Nat.le_of_ble_eq_true rfl) fun q3 => ?_
  refine an_Dpf (pc := 43) (fty := .array .int) (fs1 := [.int (Int32.ofInt 0), .ref q0, .int (Int32.ofInt 0), .ref q1, .ref q2, .ref q3, .null, .null, .int 0, .int 0, .null]) hin rfl ad_Left_init_43 am_f4_5 am_fl_Left_28 (by decide +kernel) rfl rfl (Nat.le_of_ble_eq_true rfl) rfl ?_
  refine an_Dal (pc := 46) ad_Left_init_46 hr0 ?_
  refine an_Dbi (pc := 47) ad_Left_init_47 ⟨by decide, by decide⟩ ?_
  refine an_Dna (pc := 49) (n0 := 4) (K := 14) (n := 8) (t0 := 1) (ty := .int) (atype := .int) (a0 := (8, .inl (fun _ => 0))) rfl (by decide +kernel) ad_Left_init_49 rfl am_ai (fun _ => rfl) (an_na14 8) (fun _ => rfl) (by decide) (by decide) (Nat.le_of_ble_eq_true rfl) (Nat.le_of_ble_eq_true rfl) (Nat.le_of_ble_eq_true rfl) fun q4 => ?_
  refine an_Dpf (pc := 51) (fty := .array .int) (fs1 := [.int (Int32.ofInt 0), .ref q0, .int (Int32.ofInt 0), .ref q1, .ref q2, .ref q3, .ref q4, .null, .int 0, .int 0, .null]) hin rfl ad_Left_init_51 am_f4_6 am_fl_Left_31 (by decide +kernel) rfl rfl (Nat.le_of_ble_eq_true rfl) rfl ?_
  refine an_Dal (pc := 54) ad_Left_init_54 hr0 ?_
  refine an_Dbi (pc := 55) ad_Left_init_55 ⟨by decide, by decide⟩ ?_
  refine an_Dna (pc := 57) (n0 := 5) (K := 14) (n := 8) (t0 := 1) (ty := .int) (atype := .int) (a0 := (8, .inl (fun _ => 0))) rfl (by decide +kernel) ad_Left_init_57 rfl am_ai (fun _ => rfl) (an_na14 8) (fun _ => rfl) (by decide) (by decide) (Nat.le_of_ble_eq_true rfl) (Nat.le_of_ble_eq_true rfl) (Nat.le_of_ble_eq_true rfl) fun q5 => ?_
  refine an_Dpf (pc := 59) (fty := .array .int) (fs1 := [.int (Int32.ofInt 0), .ref q0, .int (Int32.ofInt 0), .ref q1, .ref q2, .ref q3, .ref q4, .ref q5, .int 0, .int 0, .null]) hin rfl ad_Left_init_59 am_f4_7 am_fl_Left_34 (by decide +kernel) rfl rfl (Nat.le_of_ble_eq_true rfl) rfl ?_
  refine an_Dal (pc := 62) ad_Left_init_62 hr0 ?_
  refine an_Dic (pc := 63) ad_Left_init_63 ?_
  refine an_Dpn (pc := 64) (fty := .int) (fs1 := [.int (Int32.ofInt 0), .ref q0, .int (Int32.ofInt 0), .ref q1, .ref q2, .ref q3, .ref q4, .ref q5, .int (Int32.ofInt 0), .int 0, .null]) ad_Left_init_64 am_f4_8 am_fl_Left_37 (by decide +kernel) rfl rfl (Nat.le_of_ble_eq_true rfl) rfl ?_
  refine an_Dal (pc := 67) ad_Left_init_67 hr0 ?_
  refine an_Dic (pc := 68) ad_Left_init_68 ?_
  refine an_Dpn (pc := 69) (fty := .int) (fs1 := [.int (Int32.ofInt 0), .ref q0, .int (Int32.ofInt 0), .ref q1, .ref q2, .ref q3, .ref q4, .ref q5, .int (Int32.ofInt 0), .int (Int32.ofInt 0), .null]) ad_Left_init_69 am_f4_9 am_fl_Left_40 (by decide +kernel) rfl rfl (Nat.le_of_ble_eq_true rfl) rfl ?_
  refine an_Dal (pc := 72) ad_Left_init_72 hr0 ?_
  refine an_Dbi (pc := 73) ad_Left_init_73 ⟨by decide, by decide⟩ ?_
  refine an_Dna (pc := 75) (n0 := 6) (K := 14) (n := 8) (t0 := 1) (ty := .int) (atype := .int) (a0 := (8, .inl (fun _ => 0))) rfl (by decide +kernel) ad_Left_init_75 rfl am_ai (fun _ => rfl) (an_na14 8) (fun _ => rfl) (by decide) (by decide) (Nat.le_of_ble_eq_true rfl) (Nat.le_of_ble_eq_true rfl) (Nat.le_of_ble_eq_true rfl) fun q6 => ?_
  refine an_Dpf (pc := 77) (fty := .array .int) (fs1 := [.int (Int32.ofInt 0), .ref q0, .int (Int32.ofInt 0), .ref q1, .ref q2, .ref q3, .ref q4, .ref q5, .int (Int32.ofInt 0), .int (Int32.ofInt 0), .ref q6]) hin rfl ad_Left_init_77 am_f4_10 am_fl_Left_43 (by decide +kernel) rfl rfl (Nat.le_of_ble_eq_true rfl) rfl ?_
  refine an_Dfin (fun _ => 0) (fun _ => am_rg_0 _) (Nat.le_of_ble_eq_true rfl) rfl ?_
  refine an_DY (Y' := am_L4) rfl ?_
  exact an_Dret hAe ad_Left_init_80 rfl rfl rfl (Nat.le_of_ble_eq_true rfl) (Nat.le_of_ble_eq_true rfl)
theorem ad_Md_init_0 : decode prog_14_method_1_code 0 = .ok (.aload_n 0, 1) := by decide +kernel
theorem ad_Md_init_1 : decode prog_14_method_1_code 1 = .ok (.invokespecial 1, 3) := by decide +kernel
theorem ad_Md_init_4 : decode prog_14_method_1_code 4 = .ok (.aload_n 0, 1) := by decide +kernel
theorem ad_Md_init_5 : decode prog_14_method_1_code 5 = .ok (.sipush 940, 3) := by decide +kernel
theorem ad_Md_init_8 : decode prog_14_method_1_code 8 = .ok (.newarray .int, 2) := by decide +kernel
theorem ad_Md_init_10 : decode prog_14_method_1_code 10 = .ok (.putfield 7, 3) := by decide +kernel
theorem ad_Md_init_13 : decode prog_14_method_1_code 13 = .ok (.aload_n 0, 1) := by decide +kernel
theorem ad_Md_init_14 : decode prog_14_method_1_code 14 = .ok (.sipush 840, 3) := by decide +kernel
theorem ad_Md_init_17 : decode prog_14_method_1_code 17 = .ok (.newarray .int, 2) := by decide +kernel
theorem ad_Md_init_19 : decode prog_14_method_1_code 19 = .ok (.putfield 13, 3) := by decide +kernel
theorem ad_Md_init_22 : decode prog_14_method_1_code 22 = .ok (.aload_n 0, 1) := by decide +kernel
theorem ad_Md_init_23 : decode prog_14_method_1_code 23 = .ok (.sipush 325, 3) := by decide +kernel
theorem ad_Md_init_26 : decode prog_14_method_1_code 26 = .ok (.newarray .int, 2) := by decide +kernel
theorem ad_Md_init_28 : decode prog_14_method_1_code 28 = .ok (.putfield 16, 3) := by decide +kernel
theorem ad_Md_init_31 : decode prog_14_method_1_code 31 = .ok (.aload_n 0, 1) := by decide +kernel
theorem ad_Md_init_32 : decode prog_14_method_1_code 32 = .ok (.sipush 240, 3) := by decide +kernel
theorem ad_Md_init_35 : decode prog_14_method_1_code 35 = .ok (.newarray .int, 2) := by decide +kernel
theorem ad_Md_init_37 : decode prog_14_method_1_code 37 = .ok (.putfield 19, 3) := by decide +kernel
theorem ad_Md_init_40 : decode prog_14_method_1_code 40 = .ok (.aload_n 0, 1) := by decide +kernel
theorem ad_Md_init_41 : decode prog_14_method_1_code 41 = .ok (.sipush 1680, 3) := by decide +kernel
theorem ad_Md_init_44 : decode prog_14_method_1_code 44 = .ok (.newarray .int, 2) := by decide +kernel
theorem ad_Md_init_46 : decode prog_14_method_1_code 46 = .ok (.putfield 22, 3) := by decide +kernel
theorem ad_Md_init_49 : decode prog_14_method_1_code 49 = .ok (.aload_n 0, 1) := by decide +kernel
theorem ad_Md_init_50 : decode prog_14_method_1_code 50 = .ok (.bipush 14, 2) := by decide +kernel
theorem ad_Md_init_52 : decode prog_14_method_1_code 52 = .ok (.newarray .long, 2) := by decide +kernel
theorem ad_Md_init_54 : decode prog_14_method_1_code 54 = .ok (.putfield 25, 3) := by decide +kernel
theorem ad_Md_init_57 : decode prog_14_method_1_code 57 = .ok (.aload_n 0, 1) := by decide +kernel
theorem ad_Md_init_58 : decode prog_14_method_1_code 58 = .ok (.bipush 14, 2) := by decide +kernel
theorem ad_Md_init_60 : decode prog_14_method_1_code 60 = .ok (.newarray .long, 2) := by decide +kernel
theorem ad_Md_init_62 : decode prog_14_method_1_code 62 = .ok (.putfield 29, 3) := by decide +kernel
theorem ad_Md_init_65 : decode prog_14_method_1_code 65 = .ok (.aload_n 0, 1) := by decide +kernel
theorem ad_Md_init_66 : decode prog_14_method_1_code 66 = .ok (.bipush 28, 2) := by decide +kernel
theorem ad_Md_init_68 : decode prog_14_method_1_code 68 = .ok (.newarray .long, 2) := by decide +kernel
theorem ad_Md_init_70 : decode prog_14_method_1_code 70 = .ok (.putfield 32, 3) := by decide +kernel
theorem ad_Md_init_73 : decode prog_14_method_1_code 73 = .ok (.aload_n 0, 1) := by decide +kernel
theorem ad_Md_init_74 : decode prog_14_method_1_code 74 = .ok (.iconst 2, 1) := by decide +kernel
theorem ad_Md_init_75 : decode prog_14_method_1_code 75 = .ok (.newarray .boolean, 2) := by decide +kernel
theorem ad_Md_init_77 : decode prog_14_method_1_code 77 = .ok (.putfield 35, 3) := by decide +kernel
theorem ad_Md_init_80 : decode prog_14_method_1_code 80 = .ok (.aload_n 0, 1) := by decide +kernel
theorem ad_Md_init_81 : decode prog_14_method_1_code 81 = .ok (.sipush 384, 3) := by decide +kernel
theorem ad_Md_init_84 : decode prog_14_method_1_code 84 = .ok (.newarray .int, 2) := by decide +kernel
theorem ad_Md_init_86 : decode prog_14_method_1_code 86 = .ok (.putfield 39, 3) := by decide +kernel
theorem ad_Md_init_89 : decode prog_14_method_1_code 89 = .ok (.aload_n 0, 1) := by decide +kernel
theorem ad_Md_init_90 : decode prog_14_method_1_code 90 = .ok (.sipush 384, 3) := by decide +kernel
theorem ad_Md_init_93 : decode prog_14_method_1_code 93 = .ok (.newarray .int, 2) := by decide +kernel
theorem ad_Md_init_95 : decode prog_14_method_1_code 95 = .ok (.putfield 42, 3) := by decide +kernel
theorem ad_Md_init_98 : decode prog_14_method_1_code 98 = .ok (.aload_n 0, 1) := by decide +kernel
theorem ad_Md_init_99 : decode prog_14_method_1_code 99 = .ok (.bipush 48, 2) := by decide +kernel
theorem ad_Md_init_101 : decode prog_14_method_1_code 101 = .ok (.newarray .int, 2) := by decide +kernel
theorem ad_Md_init_103 : decode prog_14_method_1_code 103 = .ok (.putfield 45, 3) := by decide +kernel
theorem ad_Md_init_106 : decode prog_14_method_1_code 106 = .ok (.aload_n 0, 1) := by decide +kernel
theorem ad_Md_init_107 : decode prog_14_method_1_code 107 = .ok (.bipush 8, 2) := by decide +kernel
theorem ad_Md_init_109 : decode prog_14_method_1_code 109 = .ok (.newarray .int, 2) := by decide +kernel
theorem ad_Md_init_111 : decode prog_14_method_1_code 111 = .ok (.putfield 48, 3) := by decide +kernel
theorem ad_Md_init_114 : decode prog_14_method_1_code 114 = .ok (.aload_n 0, 1) := by decide +kernel
theorem ad_Md_init_115 : decode prog_14_method_1_code 115 = .ok (.bipush 8, 2) := by decide +kernel
theorem ad_Md_init_117 : decode prog_14_method_1_code 117 = .ok (.newarray .int, 2) := by decide +kernel
theorem ad_Md_init_119 : decode prog_14_method_1_code 119 = .ok (.putfield 51, 3) := by decide +kernel
theorem ad_Md_init_122 : decode prog_14_method_1_code 122 = .ok (.aload_n 0, 1) := by decide +kernel
theorem ad_Md_init_123 : decode prog_14_method_1_code 123 = .ok (.bipush 8, 2) := by decide +kernel
theorem ad_Md_init_125 : decode prog_14_method_1_code 125 = .ok (.newarray .int, 2) := by decide +kernel
theorem ad_Md_init_127 : decode prog_14_method_1_code 127 = .ok (.putfield 54, 3) := by decide +kernel
theorem ad_Md_init_130 : decode prog_14_method_1_code 130 = .ok (.aload_n 0, 1) := by decide +kernel
theorem ad_Md_init_131 : decode prog_14_method_1_code 131 = .ok (.bipush 60, 2) := by decide +kernel
theorem ad_Md_init_133 : decode prog_14_method_1_code 133 = .ok (.newarray .int, 2) := by decide +kernel
theorem ad_Md_init_135 : decode prog_14_method_1_code 135 = .ok (.putfield 57, 3) := by decide +kernel
theorem ad_Md_init_138 : decode prog_14_method_1_code 138 = .ok (.aload_n 0, 1) := by decide +kernel
theorem ad_Md_init_139 : decode prog_14_method_1_code 139 = .ok (.sipush 384, 3) := by decide +kernel
theorem ad_Md_init_142 : decode prog_14_method_1_code 142 = .ok (.newarray .boolean, 2) := by decide +kernel
theorem ad_Md_init_144 : decode prog_14_method_1_code 144 = .ok (.putfield 60, 3) := by decide +kernel
theorem ad_Md_init_147 : decode prog_14_method_1_code 147 = .ok (.aload_n 0, 1) := by decide +kernel
theorem ad_Md_init_148 : decode prog_14_method_1_code 148 = .ok (.sipush 210, 3) := by decide +kernel
theorem ad_Md_init_151 : decode prog_14_method_1_code 151 = .ok (.newarray .long, 2) := by decide +kernel
theorem ad_Md_init_153 : decode prog_14_method_1_code 153 = .ok (.putfield 63, 3) := by decide +kernel
theorem ad_Md_init_156 : decode prog_14_method_1_code 156 = .ok (.aload_n 0, 1) := by decide +kernel
theorem ad_Md_init_157 : decode prog_14_method_1_code 157 = .ok (.sipush 210, 3) := by decide +kernel
theorem ad_Md_init_160 : decode prog_14_method_1_code 160 = .ok (.newarray .int, 2) := by decide +kernel
theorem ad_Md_init_162 : decode prog_14_method_1_code 162 = .ok (.putfield 66, 3) := by decide +kernel
theorem ad_Md_init_165 : decode prog_14_method_1_code 165 = .ok (.aload_n 0, 1) := by decide +kernel
theorem ad_Md_init_166 : decode prog_14_method_1_code 166 = .ok (.bipush 8, 2) := by decide +kernel
theorem ad_Md_init_168 : decode prog_14_method_1_code 168 = .ok (.newarray .int, 2) := by decide +kernel
theorem ad_Md_init_170 : decode prog_14_method_1_code 170 = .ok (.putfield 69, 3) := by decide +kernel
theorem ad_Md_init_173 : decode prog_14_method_1_code 173 = .ok (.aload_n 0, 1) := by decide +kernel
theorem ad_Md_init_174 : decode prog_14_method_1_code 174 = .ok (.bipush 8, 2) := by decide +kernel
theorem ad_Md_init_176 : decode prog_14_method_1_code 176 = .ok (.newarray .int, 2) := by decide +kernel
theorem ad_Md_init_178 : decode prog_14_method_1_code 178 = .ok (.putfield 72, 3) := by decide +kernel
theorem ad_Md_init_181 : decode prog_14_method_1_code 181 = .ok (.aload_n 0, 1) := by decide +kernel
theorem ad_Md_init_182 : decode prog_14_method_1_code 182 = .ok (.bipush 8, 2) := by decide +kernel
theorem ad_Md_init_184 : decode prog_14_method_1_code 184 = .ok (.newarray .int, 2) := by decide +kernel
theorem ad_Md_init_186 : decode prog_14_method_1_code 186 = .ok (.putfield 75, 3) := by decide +kernel
theorem ad_Md_init_189 : decode prog_14_method_1_code 189 = .ok (.aload_n 0, 1) := by decide +kernel
theorem ad_Md_init_190 : decode prog_14_method_1_code 190 = .ok (.bipush 8, 2) := by decide +kernel
theorem ad_Md_init_192 : decode prog_14_method_1_code 192 = .ok (.newarray .int, 2) := by decide +kernel
theorem ad_Md_init_194 : decode prog_14_method_1_code 194 = .ok (.putfield 78, 3) := by decide +kernel
theorem ad_Md_init_197 : decode prog_14_method_1_code 197 = .ok (.aload_n 0, 1) := by decide +kernel
theorem ad_Md_init_198 : decode prog_14_method_1_code 198 = .ok (.bipush 48, 2) := by decide +kernel
theorem ad_Md_init_200 : decode prog_14_method_1_code 200 = .ok (.newarray .int, 2) := by decide +kernel
theorem ad_Md_init_202 : decode prog_14_method_1_code 202 = .ok (.putfield 81, 3) := by decide +kernel
theorem ad_Md_init_205 : decode prog_14_method_1_code 205 = .ok (.aload_n 0, 1) := by decide +kernel
theorem ad_Md_init_206 : decode prog_14_method_1_code 206 = .ok (.bipush 8, 2) := by decide +kernel
theorem ad_Md_init_208 : decode prog_14_method_1_code 208 = .ok (.newarray .int, 2) := by decide +kernel
theorem ad_Md_init_210 : decode prog_14_method_1_code 210 = .ok (.putfield 84, 3) := by decide +kernel
theorem ad_Md_init_213 : decode prog_14_method_1_code 213 = .ok (.aload_n 0, 1) := by decide +kernel
theorem ad_Md_init_214 : decode prog_14_method_1_code 214 = .ok (.bipush 48, 2) := by decide +kernel
theorem ad_Md_init_216 : decode prog_14_method_1_code 216 = .ok (.newarray .int, 2) := by decide +kernel
theorem ad_Md_init_218 : decode prog_14_method_1_code 218 = .ok (.putfield 87, 3) := by decide +kernel
theorem ad_Md_init_221 : decode prog_14_method_1_code 221 = .ok (.aload_n 0, 1) := by decide +kernel
theorem ad_Md_init_222 : decode prog_14_method_1_code 222 = .ok (.bipush 48, 2) := by decide +kernel
theorem ad_Md_init_224 : decode prog_14_method_1_code 224 = .ok (.newarray .int, 2) := by decide +kernel
theorem ad_Md_init_226 : decode prog_14_method_1_code 226 = .ok (.putfield 90, 3) := by decide +kernel
theorem ad_Md_init_229 : decode prog_14_method_1_code 229 = .ok (.aload_n 0, 1) := by decide +kernel
theorem ad_Md_init_230 : decode prog_14_method_1_code 230 = .ok (.bipush 8, 2) := by decide +kernel
theorem ad_Md_init_232 : decode prog_14_method_1_code 232 = .ok (.newarray .int, 2) := by decide +kernel
theorem ad_Md_init_234 : decode prog_14_method_1_code 234 = .ok (.putfield 93, 3) := by decide +kernel
theorem ad_Md_init_237 : decode prog_14_method_1_code 237 = .ok (.aload_n 0, 1) := by decide +kernel
theorem ad_Md_init_238 : decode prog_14_method_1_code 238 = .ok (.bipush 8, 2) := by decide +kernel
theorem ad_Md_init_240 : decode prog_14_method_1_code 240 = .ok (.newarray .int, 2) := by decide +kernel
theorem ad_Md_init_242 : decode prog_14_method_1_code 242 = .ok (.putfield 96, 3) := by decide +kernel
theorem ad_Md_init_245 : decode prog_14_method_1_code 245 = .ok (.aload_n 0, 1) := by decide +kernel
theorem ad_Md_init_246 : decode prog_14_method_1_code 246 = .ok (.sipush 240, 3) := by decide +kernel
theorem ad_Md_init_249 : decode prog_14_method_1_code 249 = .ok (.newarray .int, 2) := by decide +kernel
theorem ad_Md_init_251 : decode prog_14_method_1_code 251 = .ok (.putfield 99, 3) := by decide +kernel
theorem ad_Md_init_254 : decode prog_14_method_1_code 254 = .ok (.return_, 1) := by decide +kernel
theorem ai_Md : an_CP am_Md_init 12 2 30 6227 am_L12 (fun h => h 0 = (fun _ => 0) ∧ h 2 = (fun _ => 0) ∧ h 9 = fun _ => 0) := by
  refine an_CP.of (by decide) rfl rfl [.int 0, .null, .int 0, .int 0, .int 0, .int 0, .int 0, .int 0, .int 0, .int 0, .int 0, .int 0, .long 0, .int 0, .null, .null, .null, .null, .null, .null, .null, .null, .int 0, .int 0, .int 0, .null, .null, .null, .null, .null, .null, .null, .null, .int 0, .int 0, .int 0, .int 0, .int 0, .null, .null, .int 0, .null, .null, .null, .null, .int 0, .int 0, .int 0, .int 0, .null, .null, .null, .null, .int 0, .int 0, .int 0, .null, .null, .int 0, .int 0, .null, .int 0, .int 0, .int 0, .int 0] rfl fun p l e s m args below meth c G A h0 r hO hAe hin hrs hr0 hwf => ?_
  refine an_Dal (pc := 0) ad_Md_init_0 hr0 ?_
  refine an_Dobj (pc := 1) ad_Md_init_1 (am_t 1376 (by decide +kernel) (by decide +kernel)) am_oi am_oc hrs (Nat.le_of_ble_eq_true rfl) (Nat.le_of_ble_eq_true rfl) (Nat.le_of_ble_eq_true rfl) ?_
  refine an_Dal (pc := 4) ad_Md_init_4 hr0 ?_
  refine an_Dsi (pc := 5) ad_Md_init_5 ⟨by decide, by decide⟩ ?_
  refine an_Dna (pc := 8) (n0 := 0) (K := 14) (n := 940) (t0 := 1) (ty := .int) (atype := .int) (a0 := (940, .inl (fun _ => 0))) rfl (by decide +kernel) ad_Md_init_8 rfl am_ai (fun _ => rfl) (an_na14 940) (fun _ => rfl) (by decide) (by decide) (Nat.le_of_ble_eq_true rfl) (Nat.le_of_ble_eq_true rfl) (Nat.le_of_ble_eq_true rfl) fun q0 => ?_
  refine an_Dpf (pc := 10) (fty := .array .int) (fs1 := [.int 0, .ref q0, .int 0, .int 0, .int 0, .int 0, .int 0, .int 0, .int 0, .int 0, .int 0, .int 0, .long 0, .int 0, .null, .null, .null, .null, .null, .null, .null, .null, .int 0, .int 0, .int 0, .null, .null, .null, .null, .null, .null, .null, .null, .int 0, .int 0, .int 0, .int 0, .int 0, .null, .null, .int 0, .null, .null, .null, .null, .int 0, .int 0, .int 0, .int 0, .null, .null, .null, .null, .int 0, .int 0, .int 0, .null, .null, .int 0, .int 0, .null, .int 0, .int 0, .int 0, .int 0]) hin rfl ad_Md_init_10 am_f12_1 am_fl_Md_7 (by decide +kernel) rfl rfl (Nat.le_of_ble_eq_true rfl) rfl ?_
  refine an_Dal (pc := 13) ad_Md_init_13 hr0 ?_
  refine an_Dsi (pc := 14) ad_Md_init_14 ⟨by decide, by decide⟩ ?_
  refine an_Dna (pc := 17) (n0 := 1) (K := 14) (n := 840) (t0 := 1) (ty := .int) (atype := .int) (a0 := (840, .inl (fun _ => 0))) rfl (by decide +kernel) ad_Md_init_17 rfl am_ai (fun _ => rfl) (an_na14 840) (fun _ => rfl) (by decide) (by decide) (Nat.le_of_ble_eq_true rfl) (Nat.le_of_ble_eq_true rfl) (Nat.le_of_ble_eq_true rfl) fun q1 => ?_
  refine an_Dpf (pc := 19) (fty := .array .int) (fs1 := [.int 0, .ref q0, .int 0, .int 0, .int 0, .int 0, .int 0, .int 0, .int 0, .int 0, .int 0, .int 0, .long 0, .int 0, .ref q1, .null, .null, .null, .null, .null, .null, .null, .int 0, .int 0, .int 0, .null, .null, .null, .null, .null, .null, .null, .null, .int 0, .int 0, .int 0, .int 0, .int 0, .null, .null, .int 0, .null, .null, .null, .null, .int 0, .int 0, .int 0, .int 0, .null, .null, .null, .null, .int 0, .int 0, .int 0, .null, .null, .int 0, .int 0, .null, .int 0, .int 0, .int 0, .int 0]) hin rfl ad_Md_init_19 am_f12_14 am_fl_Md_13 (by decide +kernel) rfl rfl (Nat.le_of_ble_eq_true rfl) rfl ?_
  refine an_Dal (pc := 22) ad_Md_init_22 hr0 ?_
  refine an_Dsi (pc := 23) ad_Md_init_23 ⟨by decide, by decide⟩ ?_
  refine an_Dna (pc := 26) (n0 := 2) (K := 14) (n := 325) (t0 := 1) (ty := .int) (atype := .int) (a0 := (325, .inl (fun _ => 0))) rfl (by decide +kernel) ad_Md_init_26 rfl am_ai (fun _ => rfl) (an_na14 325) (fun _ => rfl) (by decide) (by decide) (Nat.le_of_ble_eq_true rfl) (Nat.le_of_ble_eq_true rfl) (Nat.le_of_ble_eq_true rfl) fun q2 => ?_
  refine an_Dpf (pc := 28) (fty := .array .int) (fs1 := [.int 0, .ref q0, .int 0, .int 0, .int 0, .int 0, .int 0, .int 0, .int 0, .int 0, .int 0, .int 0, .long 0, .int 0, .ref q1, .ref q2, .null, .null, .null, .null, .null, .null, .int 0, .int 0, .int 0, .null, .null, .null, .null, .null, .null, .null, .null, .int 0, .int 0, .int 0, .int 0, .int 0, .null, .null, .int 0, .null, .null, .null, .null, .int 0, .int 0, .int 0, .int 0, .null, .null, .null, .null, .int 0, .int 0, .int 0, .null, .null, .int 0, .int 0, .null, .int 0, .int 0, .int 0, .int 0]) hin rfl ad_Md_init_28 am_f12_15 am_fl_Md_16 (by decide +kernel) rfl rfl (Nat.le_of_ble_eq_true rfl) rfl ?_
  refine an_Dal (pc := 31) ad_Md_init_31 hr0 ?_
  refine an_Dsi (pc := 32) ad_Md_init_32 ⟨by decide, by decide⟩ ?_
  refine an_Dna (pc := 35) (n0 := 3) (K := 14) (n := 240) (t0 := 1) (ty := .int) (atype := .int) (a0 := (240, .inl (fun _ => 0))) rfl (by decide +kernel) ad_Md_init_35 rfl am_ai (fun _ => rfl) (an_na14 240) (fun _ => rfl) (by decide) (by decide) (Nat.le_of_ble_eq_true rfl) (Nat.le_of_ble_eq_true rfl) (Nat.le_of_ble_eq_true rfl) fun q3 => ?_
  refine an_Dpf (pc := 37) (fty := .array .int) (fs1 := [.int 0, .ref q0, .int 0, .int 0, .int 0, .int 0, .int 0, .int 0, .int 0, .int 0, .int 0, .int 0, .long 0, .int 0, .ref q1, .ref q2, .ref q3, .null, .null, .null, .null, .null, .int 0, .int 0, .int 0, .null, .null, .null, .null, .null, .null, .null, .null, .int 0, .int 0, .int 0, .int 0, .int 0, .null, .null, .int 0, .null, .null, .null, .null, .int 0, .int 0, .int 0, .int 0, .null, .null, .null, .null, .int 0, .int 0, .int 0, .null, .null, .int 0, .int 0, .null, .int 0, .int 0, .int 0, .int 0]) hin rfl ad_Md_init_37 am_f12_16 am_fl_Md_19 (by decide +kernel) rfl rfl (Nat.le_of_ble_eq_true rfl) rfl ?_
  refine an_Dal (pc := 40) ad_Md_init_40 hr0 ?_
  refine an_Dsi (pc := 41) ad_Md_init_41 ⟨by decide, by decide⟩ ?_
  refine an_Dna (pc := 44) (n0 := 4) (K := 14) (n := 1680) (t0 := 1) (ty := .int) (atype := .int) (a0 := (1680, .inl (fun _ => 0))) rfl (by decide +kernel) ad_Md_init_44 rfl am_ai (fun _ => rfl) (an_na14 1680) (fun _ => rfl) (by decide) (by decide) (Nat.le_of_ble_eq_true rfl) (Nat.le_of_ble_eq_true rfl) (Nat.le_of_ble_eq_true rfl) fun q4 => ?_
  refine an_Dpf (pc := 46) (fty := .array .int) (fs1 := [.int 0, .ref q0, .int 0, .int 0, .int 0, .int 0, .int 0, .int 0, .int 0, .int 0, .int 0, .int 0, .long 0, .int 0, .ref q1, .ref q2, .ref q3, .ref q4, .null, .null, .null, .null, .int 0, .int 0, .int 0, .null, .null, .null, .null, .null, .null, .null, .null, .int 0, .int 0, .int 0, .int 0, .int 0, .null, .null, .int 0, .null, .null, .null, .null, .int 0, .int 0, .int 0, .int 0, .null, .null, .null, .null, .int 0, .int 0, .int 0, .null, .null, .int 0, .int 0, .null, .int 0, .int 0, .int 0, .int 0]) hin rfl ad_Md_init_46 am_f12_17 am_fl_Md_22 (by decide +kernel) rfl rfl (Nat.le_of_ble_eq_true rfl) rfl ?_
  refine an_Dal (pc := 49) ad_Md_init_49 hr0 ?_
  refine an_Dbi (pc := 50) ad_Md_init_50 ⟨by decide, by decide⟩ ?_
  refine an_Dna (pc := 52) (n0 := 5) (K := 15) (n := 14) (t0 := 2) (ty := .long) (atype := .long) (a0 := (14, .inr (.inl (fun _ => 0)))) rfl (by decide +kernel) ad_Md_init_52 rfl am_aj (fun _ => rfl) (an_na15 14) (fun _ => rfl) (by decide) (by decide) (Nat.le_of_ble_eq_true rfl) (Nat.le_of_ble_eq_true rfl) (Nat.le_of_ble_eq_true rfl) fun q5 => ?_
  refine an_Dpf (pc := 54) (fty := .array .long) (fs1 := [.int 0, .ref q0, .int 0, .int 0, .int 0, .int 0, .int 0, .int 0, .int 0, .int 0, .int 0, .int 0, .long 0, .int 0, .ref q1, .ref q2, .ref q3, .ref q4, .ref q5, .null, .null, .null, .int 0, .int 0, .int 0, .null, .null, .null, .null, .null, .null, .null, .null, .int 0, .int 0, .int 0, .int 0, .int 0, .null, .null, .int 0, .null, .null, .null, .null, .int 0, .int 0, .int 0, .int 0, .null, .null, .null, .null, .int 0, .int 0, .int 0, .null, .null, .int 0, .int 0, .null, .int 0, .int 0, .int 0, .int 0]) hin rfl ad_Md_init_54 am_f12_18 am_fl_Md_25 (by decide +kernel) rfl rfl (Nat.le_of_ble_eq_true rfl) rfl ?_
  refine an_Dal (pc := 57) ad_Md_init_57 hr0 ?_
  refine an_Dbi (pc := 58) ad_Md_init_58 ⟨by decide, by decide⟩ ?_
  refine an_Dna (pc := 60) (n0 := 6) (K := 15) (n := 14) (t0 := 2) (ty := .long) (atype := .long) (a0 := (14, .inr (.inl (fun _ => 0)))) rfl (by decide +kernel) ad_Md_init_60 rfl am_aj (fun _ => rfl) (an_na15 14) (fun _ => rfl) (by decide) (by decide) (Nat.le_of_ble_eq_true rfl) (Nat.le_of_ble_eq_true rfl) (Nat.le_of_ble_eq_true rfl) fun q6 => ?_
  refine an_Dpf (pc := 62) (fty := .array .long) (fs1 := [.int 0, .ref q0, .int 0, .int 0, .int 0, .int 0, .int 0, .int 0, .int 0, .int 0, .int 0, .int 0, .long 0, .int 0, .ref q1, .ref q2, .ref q3, .ref q4, .ref q5, .ref q6, .null, .null, .int 0, .int 0, .int 0, .null, .null, .null, .null, .null, .null, .null, .null, .int 0, .int 0, .int 0, .int 0, .int 0, .null, .null, .int 0, .null, .null, .null, .null, .int 0, .int 0, .int 0, .int 0, .null, .null, .null, .null, .int 0, .int 0, .int 0, .null, .null, .int 0, .int 0, .null, .int 0, .int 0, .int 0, .int 0]) hin rfl ad_Md_init_62 am_f12_19 am_fl_Md_29 (by decide +kernel) rfl rfl (Nat.le_of_ble_eq_true rfl) rfl ?_
  refine an_Dal (pc := 65) ad_Md_init_65 hr0 ?_
  refine an_Dbi (pc := 66) ad_Md_init_66 ⟨by decide, by decide⟩ ?_
  refine an_Dna (pc := 68) (n0 := 7) (K := 15) (n := 28) (t0 := 2) (ty := .long) (atype := .long) (a0 := (28, .inr (.inl (fun _ => 0)))) rfl (by decide +kernel) ad_Md_init_68 rfl am_aj (fun _ => rfl) (an_na15 28) (fun _ => rfl) (by decide) (by decide) (Nat.le_of_ble_eq_true rfl) (Nat.le_of_ble_eq_true rfl) (Nat.le_of_ble_eq_true rfl) fun q7 => ?_
  refine an_Dpf (pc := 70) (fty := .array .long) (fs1 := [.int 0, .ref q0, .int 0, .int 0, .int 0, .int 0, .int 0, .int 0, .int 0, .int 0, .int 0, .int 0, .long 0, .int 0, .ref q1, .ref q2, .ref q3, .ref q4, .ref q5, .ref q6, .ref q7, .null, .int 0, .int 0, .int 0, .null, .null, .null, .null, .null, .null, .null, .null, .int 0, .int 0, .int 0, .int 0, .int 0, .null, .null, .int 0, .null, .null, .null, .null, .int 0, .int 0, .int 0, .int 0, .null, .null, .null, .null, .int 0, .int 0, .int 0, .null, .null, .int 0, .int 0, .null, .int 0, .int 0, .int 0, .int 0]) hin rfl ad_Md_init_70 am_f12_20 am_fl_Md_32 (by decide +kernel) rfl rfl (Nat.le_of_ble_eq_true rfl) rfl ?_
  refine an_Dal (pc := 73) ad_Md_init_73 hr0 ?_
  refine an_Dic (pc := 74) ad_Md_init_74 ?_
  refine an_Dna (pc := 75) (n0 := 8) (K := 16) (n := 2) (t0 := 3) (ty := .boolean) (atype := .boolean) (a0 := (2, .inl (fun _ => 0))) rfl (by decide +kernel) ad_Md_init_75 rfl am_az (fun _ => rfl) (an_na16 2) (fun _ => rfl) (by decide) (by decide) (Nat.le_of_ble_eq_true rfl) (Nat.le_of_ble_eq_true rfl) (Nat.le_of_ble_eq_true rfl) fun q8 => ?_
  refine an_Dpf (pc := 77) (fty := .array .boolean) (fs1 := [.int 0, .ref q0, .int 0, .int 0, .int 0, .int 0, .int 0, .int 0, .int 0, .int 0, .int 0, .int 0, .long 0, .int 0, .ref q1, .ref q2, .ref q3, .ref q4, .ref q5, .ref q6, .ref q7, .ref q8, .int 0, .int 0, .int 0, .null, .null, .null, .null, .null, .null, .null, .null, .int 0, .int 0, .int 0, .int 0, .int 0, .null, .null, .int 0, .null, .null, .null, .null, .int 0, .int 0, .int 0, .int 0, .null, .null, .null, .null, .int 0, .int 0, .int 0, .null, .null, .int 0, .int 0, .null, .int 0, .int 0, .int 0, .int 0]) hin rfl ad_Md_init_77 am_f12_21 am_fl_Md_35 (by decide +kernel) rfl rfl (Nat.le_of_ble_eq_true rfl) rfl ?_
  refine an_Dal (pc := 80) ad_Md_init_80 hr0 ?_
  refine an_Dsi (pc := 81) ad_Md_init_81 ⟨by decide, by decide⟩ ?_
  refine an_Dna (pc := 84) (n0 := 9) (K := 14) (n := 384) (t0 := 1) (ty := .int) (atype := .int) (a0 := (384, .inl (fun _ => 0))) rfl (by decide +kernel) ad_Md_init_84 rfl am_ai (fun _ => rfl) (an_na14 384) (fun _ => rfl) (by decide) (by decide) (Nat.le_of_ble_eq_true rfl) (Nat.le_of_ble_eq_true rfl) (Nat.le_of_ble_eq_true rfl) fun q9 => ?_
  refine an_Dpf (pc := 86) (fty := .array .int) (fs1 := [.int 0, .ref q0, .int 0, .int 0, .int 0, .int 0, .int 0, .int 0, .int 0, .int 0, .int 0, .int 0, .long 0, .int 0, .ref q1, .ref q2, .ref q3, .ref q4, .ref q5, .ref q6, .ref q7, .ref q8, .int 0, .int 0, .int 0, .ref q9, .null, .null, .null, .null, .null, .null, .null, .int 0, .int 0, .int 0, .int 0, .int 0, .null, .null, .int 0, .null, .null, .null, .null, .int 0, .int 0, .int 0, .int 0, .null, .null, .null, .null, .int 0, .int 0, .int 0, .null, .null, .int 0, .int 0, .null, .int 0, .int 0, .int 0, .int 0]) hin rfl ad_Md_init_86 am_f12_25 am_fl_Md_39 (by decide +kernel) rfl rfl (Nat.le_of_ble_eq_true rfl) rfl ?_
  refine an_Dal (pc := 89) ad_Md_init_89 hr0 ?_
  refine an_Dsi (pc := 90) ad_Md_init_90 ⟨by decide, by decide⟩ ?_
  refine an_Dna (pc := 93) (n0 := 10) (K := 14) (n := 384) (t0 := 1) (ty := .int) (atype := .int) (a0 := (384, .inl (fun _ => 0))) rfl (by decide +kernel) ad_Md_init_93 rfl am_ai (fun _ => rfl) (an_na14 384) (fun _ => rfl) (by decide) (by decide) (Nat.le_of_ble_eq_true rfl) (Nat.le_of_ble_eq_true rfl) (Nat.le_of_ble_eq_true rfl) fun q10 => ?_
  refine an_Dpf (pc := 95) (fty := .array .int) (fs1 := [.int 0, .ref q0, .int 0, .int 0, .int 0, .int 0, .int 0, .int 0, .int 0, .int 0, .int 0, .int 0, .long 0, .int 0, .ref q1, .ref q2, .ref q3, .ref q4, .ref q5, .ref q6, .ref q7, .ref q8, .int 0, .int 0, .int 0, .ref q9, .ref q10, .null, .null, .null, .null, .null, .null, .int 0, .int 0, .int 0, .int 0, .int 0, .null, .null, .int 0, .null, .null, .null, .null, .int 0, .int 0, .int 0, .int 0, .null, .null, .null, .null, .int 0, .int 0, .int 0, .null, .null, .int 0, .int 0, .null, .int 0, .int 0, .int 0, .int 0]) hin rfl ad_Md_init_95 am_f12_26 am_fl_Md_42 (by decide +kernel) rfl rfl (Nat.le_of_ble_eq_true rfl) rfl ?_
  refine an_Dal (pc := 98) ad_Md_init_98 hr0 ?_
  refine an_Dbi (pc := 99) ad_Md_init_99 ⟨by decide, by decide⟩ ?_
  refine an_Dna (pc := 101) (n0 := 11) (K := 14) (n := 48) (t0 := 1) (ty := .int) (atype := .int) (a0 := (48, .inl (fun _ => 0))) rfl (by decide +kernel) ad_Md_init_101 rfl am_ai (fun _ => rfl) (an_na14 48) (fun _ => rfl) (by decide) (by decide) (Nat.le_of_ble_eq_true rfl) (Nat.le_of_ble_eq_true rfl) (Nat.le_of_ble_eq_true rfl) fun q11 => ?_
  refine an_Dpf (pc := 103) (fty := .array .int) (fs1 := [.int 0, .ref q0, .int 0, .int 0, .int 0, .int 0, .int 0, .int 0, .int 0, .int 0, .int 0, .int 0, .long 0, .int 0, .ref q1, .ref q2, .ref q3, .ref q4, .ref q5, .ref q6, .ref q7, .ref q8, .int 0, .int 0, .int 0, .ref q9, .ref q10, .ref q11, .null, .null, .null, .null, .null, .int 0, .int 0, .int 0, .int 0, .int 0, .null, .null, .int 0, .null, .null, .null, .null, .int 0, .int 0, .int 0, .int 0, .null, .null, .null, .null, .int 0, .int 0, .int 0, .null, .null, .int 0, .int 0, .null, .int 0, .int 0, .int 0, .int 0]) hin rfl ad_Md_init_103 am_f12_27 am_fl_Md_45 (by decide +kernel) rfl rfl (Nat.le_of_ble_eq_true rfl) rfl ?_
  refine an_Dal (pc := 106) ad_Md_init_106 hr0 ?_
  refine an_Dbi (pc := 107) ad_Md_init_107 ⟨by decide, by decide⟩ ?_
  refine an_Dna (pc := 109) (n0 := 12) (K := 14) (n := 8) (t0 := 1) (ty := .int) (atype := .int) (a0 := (8, .inl (fun _ => 0))) rfl (by decide +kernel) ad_Md_init_109 rfl am_ai (fun _ => rfl) (an_na14 8) (fun _ => rfl) (by decide) (by decide) (Nat.le_of_ble_eq_true rfl) (Nat.le_of_ble_eq_true rfl) (Nat.le_of_ble_eq_true rfl) fun q12 => ?_
  refine an_Dpf (pc := 111) (fty := .array .int) (fs1 := [.int 0, .ref q0, .int 0, .int 0, .int 0, .int 0, .int 0, .int 0, .int 0, .int 0, .int 0, .int 0, .long 0, .int 0, .ref q1, .ref q2, .ref q3, .ref q4, .ref q5, .ref q6, .ref q7, .ref q8, .int 0, .int 0, .int 0, .ref q9, .ref q10, .ref q11, .ref q12, .null, .null, .null, .null, .int 0, .int 0, .int 0, .int 0, .int 0, .null, .null, .int 0, .null, .null, .null, .null, .int 0, .int 0, .int 0, .int 0, .null, .null, .null, .null, .int 0, .int 0, .int 0, .null, .null, .int 0, .int 0, .null, .int 0, .int 0, .int 0, .int 0]) hin rfl ad_Md_init_111 am_f12_28 am_fl_Md_48 (by decide +kernel) rfl rfl (Nat.le_of_ble_eq_true rfl) rfl ?_
  refine an_Dal (pc := 114) ad_Md_init_114 hr0 ?_
  refine an_Dbi (pc := 115) ad_Md_init_115 ⟨by decide, by decide⟩ ?_
  refine an_Dna (pc := 117) (n0 := 13) (K := 14) (n := 8) (t0 := 1) (ty := .int) (atype := .int) (a0 := (8, .inl (fun _ => 0))) rfl (by decide +kernel) ad_Md_init_117 rfl am_ai (fun _ => rfl) (an_na14 8) (fun _ => rfl) (by decide) (by decide) (Nat.le_of_ble_eq_true rfl) (Nat.le_of_ble_eq_true rfl) (Nat.le_of_ble_eq_true rfl) fun q13 => ?_
  refine an_Dpf (pc := 119) (fty := .array .int) (fs1 := [.int 0, .ref q0, .int 0, .int 0, .int 0, .int 0, .int 0, .int 0, .int 0, .int 0, .int 0, .int 0, .long 0, .int 0, .ref q1, .ref q2, .ref q3, .ref q4, .ref q5, .ref q6, .ref q7, .ref q8, .int 0, .int 0, .int 0, .ref q9, .ref q10, .ref q11, .ref q12, .ref q13, .null, .null, .null, .int 0, .int 0, .int 0, .int 0, .int 0, .null, .null, .int 0, .null, .null, .null, .null, .int 0, .int 0, .int 0, .int 0, .null, .null, .null, .null, .int 0, .int 0, .int 0, .null, .null, .int 0, .int 0, .null, .int 0, .int 0, .int 0, .int 0]) hin rfl ad_Md_init_119 am_f12_29 am_fl_Md_51 (by decide +kernel) rfl rfl (Nat.le_of_ble_eq_true rfl) rfl ?_
  refine an_Dal (pc := 122) ad_Md_init_122 hr0 ?_
  refine an_Dbi (pc := 123) ad_Md_init_123 ⟨by decide, by decide⟩ ?_
  refine an_Dna (pc := 125) (n0 := 14) (K := 14) (n := 8) (t0 := 1) (ty := .int) (atype := .int) (a0 := (8, .inl (fun _ => 0))) rfl (by decide +kernel) ad_Md_init_125 rfl am_ai (fun _ => rfl) (an_na14 8) (fun _ => rfl) (by decide) (by decide) (Nat.le_of_ble_eq_true rfl) (Nat.le_of_ble_eq_true rfl) (Nat.le_of_ble_eq_true rfl) fun q14 => ?_
  refine an_Dpf (pc := 127) (fty := .array .int) (fs1 := [.int 0, .ref q0, .int 0, .int 0, .int 0, .int 0, .int 0, .int 0, .int 0, .int 0, .int 0, .int 0, .long 0, .int 0, .ref q1, .ref q2, .ref q3, .ref q4, .ref q5, .ref q6, .ref q7, .ref q8, .int 0, .int 0, .int 0, .ref q9, .ref q10, .ref q11, .ref q12, .ref q13, .ref q14, .null, .null, .int 0, .int 0, .int 0, .int 0, .int 0, .null, .null, .int 0, .null, .null, .null, .null, .int 0, .int 0, .int 0, .int 0, .null, .null, .null, .null, .int 0, .int 0, .int 0, .null, .null, .int 0, .int 0, .null, .int 0, .int 0, .int 0, .int 0]) hin rfl ad_Md_init_127 am_f12_30 am_fl_Md_54 (by decide +kernel) rfl rfl (Nat.le_of_ble_eq_true rfl) rfl ?_
  refine an_Dal (pc := 130) ad_Md_init_130 hr0 ?_
  refine an_Dbi (pc := 131) ad_Md_init_131 ⟨by decide, by decide⟩ ?_
  refine an_Dna (pc := 133) (n0 := 15) (K := 14) (n := 60) (t0 := 1) (ty := .int) (atype := .int) (a0 := (60, .inl (fun _ => 0))) rfl (by decide +kernel) ad_Md_init_133 rfl am_ai (fun _ => rfl) (an_na14 60) (fun _ => rfl) (by decide) (by decide) (Nat.le_of_ble_eq_true rfl) (Nat.le_of_ble_eq_true rfl) (Nat.le_of_ble_eq_true rfl) fun q15 => ?_
  refine an_Dpf (pc := 135) (fty := .array .int) (fs1 := [.int 0, .ref q0, .int 0, .int 0, .int 0, .int 0, .int 0, .int 0, .int 0, .int 0, .int 0, .int 0, .long 0, .int 0, .ref q1, .ref q2, .ref q3, .ref q4, .ref q5, .ref q6, .ref q7, .ref q8, .int 0, .int 0, .int 0, .ref q9, .ref q10, .ref q11, .ref q12, .ref q13, .ref q14, .ref q15, .null, .int 0, .int 0, .int 0, .int 0, .int 0, .null, .null, .int 0, .null, .null, .null, .null, .int 0, .int 0, .int 0, .int 0, .null, .null, .null, .null, .int 0, .int 0, .int 0, .null, .null, .int 0, .int 0, .null, .int 0, .int 0, .int 0, .int 0]) hin rfl ad_Md_init_135 am_f12_31 am_fl_Md_57 (by decide +kernel) rfl rfl (Nat.le_of_ble_eq_true rfl) rfl ?_
  refine an_Dal (pc := 138) ad_Md_init_138 hr0 ?_
  refine an_Dsi (pc := 139) ad_Md_init_139 ⟨by decide, by decide⟩ ?_
  refine an_Dna (pc := 142) (n0 := 16) (K := 16) (n := 384) (t0 := 3) (ty := .boolean) (atype := .boolean) (a0 := (384, .inl (fun _ => 0))) rfl (by decide +kernel) ad_Md_init_142 rfl am_az (fun _ => rfl) (an_na16 384) (fun _ => rfl) (by decide) (by decide) (Nat.le_of_ble_eq_true rfl) (Nat.le_of_ble_eq_true rfl) (Nat.le_of_ble_eq_true rfl) fun q16 => ?_
  refine an_Dpf (pc := 144) (fty := .array .boolean) (fs1 := [.int 0, .ref q0, .int 0, .int 0, .int 0, .int 0, .int 0, .int 0, .int 0, .int 0, .int 0, .int 0, .long 0, .int 0, .ref q1, .ref q2, .ref q3, .ref q4, .ref q5, .ref q6, .ref q7, .ref q8, .int 0, .int 0, .int 0, .ref q9, .ref q10, .ref q11, .ref q12, .ref q13, .ref q14, .ref q15, .ref q16, .int 0, .int 0, .int 0, .int 0, .int 0, .null, .null, .int 0, .null, .null, .null, .null, .int 0, .int 0, .int 0, .int 0, .null, .null, .null, .null, .int 0, .int 0, .int 0, .null, .null, .int 0, .int 0, .null, .int 0, .int 0, .int 0, .int 0]) hin rfl ad_Md_init_144 am_f12_32 am_fl_Md_60 (by decide +kernel) rfl rfl (Nat.le_of_ble_eq_true rfl) rfl ?_
  refine an_Dal (pc := 147) ad_Md_init_147 hr0 ?_
  refine an_Dsi (pc := 148) ad_Md_init_148 ⟨by decide, by decide⟩ ?_
  refine an_Dna (pc := 151) (n0 := 17) (K := 15) (n := 210) (t0 := 2) (ty := .long) (atype := .long) (a0 := (210, .inr (.inl (fun _ => 0)))) rfl (by decide +kernel) ad_Md_init_151 rfl am_aj (fun _ => rfl) (an_na15 210) (fun _ => rfl) (by decide) (by decide) (Nat.le_of_ble_eq_true rfl) (Nat.le_of_ble_eq_true rfl) (Nat.le_of_ble_eq_true rfl) fun q17 => ?_
  refine an_Dpf (pc := 153) (fty := .array .long) (fs1 := [.int 0, .ref q0, .int 0, .int 0, .int 0, .int 0, .int 0, .int 0, .int 0, .int 0, .int 0, .int 0, .long 0, .int 0, .ref q1, .ref q2, .ref q3, .ref q4, .ref q5, .ref q6, .ref q7, .ref q8, .int 0, .int 0, .int 0, .ref q9, .ref q10, .ref q11, .ref q12, .ref q13, .ref q14, .ref q15, .ref q16, .int 0, .int 0, .int 0, .int 0, .int 0, .ref q17, .null, .int 0, .null, .null, .null, .null, .int 0, .int 0, .int 0, .int 0, .null, .null, .null, .null, .int 0, .int 0, .int 0, .null, .null, .int 0, .int 0, .null, .int 0, .int 0, .int 0, .int 0]) hin rfl ad_Md_init_153 am_f12_38 am_fl_Md_63 (by decide +kernel) rfl rfl (Nat.le_of_ble_eq_true rfl) rfl ?_
  refine an_Dal (pc := 156) ad_Md_init_156 hr0 ?_
  refine an_Dsi (pc := 157) ad_Md_init_157 ⟨by decide, by decide⟩ ?_
  refine an_Dna (pc := 160) (n0 := 18) (K := 14) (n := 210) (t0 := 1) (ty := .int) (atype := .int) (a0 := (210, .inl (fun _ => 0))) rfl (by decide +kernel) ad_Md_init_160 rfl am_ai (fun _ => rfl) (an_na14 210) (fun _ => rfl) (by decide) (by decide) (Nat.le_of_ble_eq_true rfl) (Nat.le_of_ble_eq_true rfl) (Nat.le_of_ble_eq_true rfl) fun q18 => ?_
  refine an_Dpf (pc := 162) (fty := .array .int) (fs1 := [.int 0, .ref q0, .int 0, .int 0, .int 0, .int 0, .int 0, .int 0, .int 0, .int 0, .int 0, .int 0, .long 0, .int 0, .ref q1, .ref q2, .ref q3, .ref q4, .ref q5, .ref q6, .ref q7, .ref q8, .int 0, .int 0, .int 0, .ref q9, .ref q10, .ref q11, .ref q12, .ref q13, .ref q14, .ref q15, .ref q16, .int 0, .int 0, .int 0, .int 0, .int 0, .ref q17, .ref q18, .int 0, .null, .null, .null, .null, .int 0, .int 0, .int 0, .int 0, .null, .null, .null, .null, .int 0, .int 0, .int 0, .null, .null, .int 0, .int 0, .null, .int 0, .int 0, .int 0, .int 0]) hin rfl ad_Md_init_162 am_f12_39 am_fl_Md_66 (by decide +kernel) rfl rfl (Nat.le_of_ble_eq_true rfl) rfl ?_
  refine an_Dal (pc := 165) ad_Md_init_165 hr0 ?_
  refine an_Dbi (pc := 166) ad_Md_init_166 ⟨by decide, by decide⟩ ?_
  refine an_Dna (pc := 168) (n0 := 19) (K := 14) (n := 8) (t0 := 1) (ty := .int) (atype := .int) (a0 := (8, .inl (fun _ => 0))) rfl (by decide +kernel) ad_Md_init_168 rfl am_ai (fun _ => rfl) (an_na14 8) (fun _ => rfl) (by decide) (by decide) (Nat.le_of_ble_eq_true rfl) (Nat.le_of_ble_eq_true rfl) (Nat.le_of_ble_eq_true rfl) fun q19 => ?_
  refine an_Dpf (pc := 170) (fty := .array .int) (fs1 := [.int 0, .ref q0, .int 0, .int 0, .int 0, .int 0, .int 0, .int 0, .int 0, .int 0, .int 0, .int 0, .long 0, .int 0, .ref q1, .ref q2, .ref q3, .ref q4, .ref q5, .ref q6, .ref q7, .ref q8, .int 0, .int 0, .int 0, .ref q9, .ref q10, .ref q11, .ref q12, .ref q13, .ref q14, .ref q15, .ref q16, .int 0, .int 0, .int 0, .int 0, .int 0, .ref q17, .ref q18, .int 0, .ref q19, .null, .null, .null, .int 0, .int 0, .int 0, .int 0, .null, .null, .null, .null, .int 0, .int 0, .int 0, .null, .null, .int 0, .int 0, .null, .int 0, .int 0, .int 0, .int 0]) hin rfl ad_Md_init_170 am_f12_41 am_fl_Md_69 (by decide +kernel) rfl rfl (Nat.le_of_ble_eq_true rfl) rfl ?_
  refine an_Dal (pc := 173) ad_Md_init_173 hr0 ?_
  refine an_Dbi (pc := 174) ad_Md_init_174 ⟨by decide, by decide⟩ ?_
  refine an_Dna (pc := 176) (n0 := 20) (K := 14) (n := 8) (t0 := 1) (ty := .int) (atype := .int) (a0 := (8, .inl (fun _ => 0))) rfl (by decide +kernel) ad_Md_init_176 rfl am_ai (fun _ => rfl) (an_na14 8) (fun _ => rfl) (by decide) (by decide) (Nat.le_of_ble_eq_true rfl) (Nat.le_of_ble_eq_true rfl) (Nat.le_of_ble_eq_true rfl) fun q20 => ?_
  refine an_Dpf (pc := 178) (fty := .array .int) (fs1 := [.int 0, .ref q0, .int 0, .int 0, .int 0, .int 0, .int 0, .int 0, .int 0, .int 0, .int 0, .int 0, .long 0, .int 0, .ref q1, .ref q2, .ref q3, .ref q4, .ref q5, .ref q6, .ref q7, .ref q8, .int 0, .int 0, .int 0, .ref q9, .ref q10, .ref q11, .ref q12, .ref q13, .ref q14, .ref q15, .ref q16, .int 0, .int 0, .int 0, .int 0, .int 0, .ref q17, .ref q18, .int 0, .ref q19, .ref q20, .null, .null, .int 0, .int 0, .int 0, .int 0, .null, .null, .null, .null, .int 0, .int 0, .int 0, .null, .null, .int 0, .int 0, .null, .int 0, .int 0, .int 0, .int 0]) hin rfl ad_Md_init_178 am_f12_42 am_fl_Md_72 (by decide +kernel) rfl rfl (Nat.le_of_ble_eq_true rfl) rfl ?_
  refine an_Dal (pc := 181) ad_Md_init_181 hr0 ?_
  refine an_Dbi (pc := 182) ad_Md_init_182 ⟨by decide, by decide⟩ ?_
  refine an_Dna (pc := 184) (n0 := 21) (K := 14) (n := 8) (t0 := 1) (ty := .int) (atype := .int) (a0 := (8, .inl (fun _ => 0))) rfl (by decide +kernel) ad_Md_init_184 rfl am_ai (fun _ => rfl) (an_na14 8) (fun _ => rfl) (by decide) (by decide) (Nat.le_of_ble_eq_true rfl) (Nat.le_of_ble_eq_true rfl) (Nat.le_of_ble_eq_true rfl) fun q21 => ?_
  refine an_Dpf (pc := 186) (fty := .array .int) (fs1 := [.int 0, .ref q0, .int 0, .int 0, .int 0, .int 0, .int 0, .int 0, .int 0, .int 0, .int 0, .int 0, .long 0, .int 0, .ref q1, .ref q2, .ref q3, .ref q4, .ref q5, .ref q6, .ref q7, .ref q8, .int 0, .int 0, .int 0, .ref q9, .ref q10, .ref q11, .ref q12, .ref q13, .ref q14, .ref q15, .ref q16, .int 0, .int 0, .int 0, .int 0, .int 0, .ref q17, .ref q18, .int 0, .ref q19, .ref q20, .ref q21, .null, .int 0, .int 0, .int 0, .int 0, .null, .null, .null, .null, .int 0, .int 0, .int 0, .null, .null, .int 0, .int 0, .null, .int 0, .int 0, .int 0, .int 0]) hin rfl ad_Md_init_186 am_f12_43 am_fl_Md_75 (by decide +kernel) rfl rfl (Nat.le_of_ble_eq_true rfl) rfl ?_
  refine an_Dal (pc := 189) ad_Md_init_189 hr0 ?_
  refine an_Dbi (pc := 190) ad_Md_init_190 ⟨by decide, by decide⟩ ?_
  refine an_Dna (pc := 192) (n0 := 22) (K := 14) (n := 8) (t0 := 1) (ty := .int) (atype := .int) (a0 := (8, .inl (fun _ => 0))) rfl (by decide +kernel) ad_Md_init_192 rfl am_ai (fun _ => rfl) (an_na14 8) (fun _ => rfl) (by decide) (by decide) (Nat.le_of_ble_eq_true rfl) (Nat.le_of_ble_eq_true rfl) (Nat.le_of_ble_eq_true rfl) fun q22 => ?_
  refine an_Dpf (pc := 194) (fty := .array .int) (fs1 := [.int 0, .ref q0, .int 0, .int 0, .int 0, .int 0, .int 0, .int 0, .int 0, .int 0, .int 0, .int 0, .long 0, .int 0, .ref q1, .ref q2, .ref q3, .ref q4, .ref q5, .ref q6, .ref q7, .ref q8, .int 0, .int 0, .int 0, .ref q9, .ref q10, .ref q11, .ref q12, .ref q13, .ref q14, .ref q15, .ref q16, .int 0, .int 0, .int 0, .int 0, .int 0, .ref q17, .ref q18, .int 0, .ref q19, .ref q20, .ref q21, .ref q22, .int 0, .int 0, .int 0, .int 0, .null, .null, .null, .null, .int 0, .int 0, .int 0, .null, .null, .int 0, .int 0, .null, .int 0, .int 0, .int 0, .int 0]) hin rfl ad_Md_init_194 am_f12_44 am_fl_Md_78 (by decide +kernel) rfl rfl (Nat.le_of_ble_eq_true rfl) rfl ?_
  refine an_Dal (pc := 197) ad_Md_init_197 hr0 ?_
  refine an_Dbi (pc := 198) ad_Md_init_198 ⟨by decide, by decide⟩ ?_
  refine an_Dna (pc := 200) (n0 := 23) (K := 14) (n := 48) (t0 := 1) (ty := .int) (atype := .int) (a0 := (48, .inl (fun _ => 0))) rfl (by decide +kernel) ad_Md_init_200 rfl am_ai (fun _ => rfl) (an_na14 48) (fun _ => rfl) (by decide) (by decide) (Nat.le_of_ble_eq_true rfl) (Nat.le_of_ble_eq_true rfl) (Nat.le_of_ble_eq_true rfl) fun q23 => ?_
  refine an_Dpf (pc := 202) (fty := .array .int) (fs1 := [.int 0, .ref q0, .int 0, .int 0, .int 0, .int 0, .int 0, .int 0, .int 0, .int 0, .int 0, .int 0, .long 0, .int 0, .ref q1, .ref q2, .ref q3, .ref q4, .ref q5, .ref q6, .ref q7, .ref q8, .int 0, .int 0, .int 0, .ref q9, .ref q10, .ref q11, .ref q12, .ref q13, .ref q14, .ref q15, .ref q16, .int 0, .int 0, .int 0, .int 0, .int 0, .ref q17, .ref q18, .int 0, .ref q19, .ref q20, .ref q21, .ref q22, .int 0, .int 0, .int 0, .int 0, .ref q23, .null, .null, .null, .int 0, .int 0, .int 0, .null, .null, .int 0, .int 0, .null, .int 0, .int 0, .int 0, .int 0]) hin rfl ad_Md_init_202 am_f12_49 am_fl_Md_81 (by decide +kernel) rfl rfl (Nat.le_of_ble_eq_true rfl) rfl ?_
  refine an_Dal (pc := 205) ad_Md_init_205 hr0 ?_
  refine an_Dbi (pc := 206) ad_Md_init_206 ⟨by decide, by decide⟩ ?_
  refine an_Dna (pc := 208) (n0 := 24) (K := 14) (n := 8) (t0 := 1) (ty := .int) (atype := .int) (a0 := (8, .inl (fun _ => 0))) rfl (by decide +kernel) ad_Md_init_208 rfl am_ai (fun _ => rfl) (an_na14 8) (fun _ => rfl) (by decide) (by decide) (Nat.le_of_ble_eq_true rfl) (Nat.le_of_ble_eq_true rfl) (Nat.le_of_ble_eq_true rfl) fun q24 => ?_
  refine an_Dpf (pc := 210) (fty := .array .int) (fs1 := [.int 0, .ref q0, .int 0, .int 0, .int 0, .int 0, .int 0, .int 0, .int 0, .int 0, .int 0, .int 0, .long 0, .int 0, .ref q1, .ref q2, .ref q3, .ref q4, .ref q5, .ref q6, .ref q7, .ref q8, .int 0, .int 0, .int 0, .ref q9, .ref q10, .ref q11, .ref q12, .ref q13, .ref q14, .ref q15, .ref q16, .int 0, .int 0, .int 0, .int 0, .int 0, .ref q17, .ref q18, .int 0, .ref q19, .ref q20, .ref q21, .ref q22, .int 0, .int 0, .int 0, .int 0, .ref q23, .ref q24, .null, .null, .int 0, .int 0, .int 0, .null, .null, .int 0, .int 0, .null, .int 0, .int 0, .int 0, .int 0]) hin rfl ad_Md_init_210 am_f12_50 am_fl_Md_84 (by decide +kernel) rfl rfl (Nat.le_of_ble_eq_true rfl) rfl ?_
  refine an_Dal (pc := 213) ad_Md_init_213 hr0 ?_
  refine an_Dbi (pc := 214) ad_Md_init_214 ⟨by decide, by decide⟩ ?_
  refine an_Dna (pc := 216) (n0 := 25) (K := 14) (n := 48) (t0 := 1) (ty := .int) (atype := .int) (a0 := (48, .inl (fun _ => 0))) rfl (by decide +kernel) ad_Md_init_216 rfl am_ai (fun _ => rfl) (an_na14 48) (fun _ => rfl) (by decide) (by decide) (Nat.le_of_ble_eq_true rfl) (Nat.le_of_ble_eq_true rfl) (Nat.le_of_ble_eq_true rfl) fun q25 => ?_
  refine an_Dpf (pc := 218) (fty := .array .int) (fs1 := [.int 0, .ref q0, .int 0, .int 0, .int 0, .int 0, .int 0, .int 0, .int 0, .int 0, .int 0, .int 0, .long 0, .int 0, .ref q1, .ref q2, .ref q3, .ref q4, .ref q5, .ref q6, .ref q7, .ref q8, .int 0, .int 0, .int 0, .ref q9, .ref q10, .ref q11, .ref q12, .ref q13, .ref q14, .ref q15, .ref q16, .int 0, .int 0, .int 0, .int 0, .int 0, .ref q17, .ref q18, .int 0, .ref q19, .ref q20, .ref q21, .ref q22, .int 0, .int 0, .int 0, .int 0, .ref q23, .ref q24, .ref q25, .null, .int 0, .int 0, .int 0, .null, .null, .int 0, .int 0, .null, .int 0, .int 0, .int 0, .int 0]) hin rfl ad_Md_init_218 am_f12_51 am_fl_Md_87 (by decide +kernel) rfl rfl (Nat.le_of_ble_eq_true rfl) rfl ?_
  refine an_Dal (pc := 221) ad_Md_init_221 hr0 ?_
  refine an_Dbi (pc := 222) ad_Md_init_222 ⟨by decide, by decide⟩ ?_
  refine an_Dna (pc := 224) (n0 := 26) (K := 14) (n := 48) (t0 := 1) (ty := .int) (atype := .int) (a0 := (48, .inl (fun _ => 0))) rfl (by decide +kernel) ad_Md_init_224 rfl am_ai (fun _ => rfl) (an_na14 48) (fun _ => rfl) (by decide) (by decide) (Nat.le_of_ble_eq_true rfl) (Nat.le_of_ble_eq_true rfl) (Nat.le_of_ble_eq_true rfl) fun q26 => ?_
  refine an_Dpf (pc := 226) (fty := .array .int) (fs1 := [.int 0, .ref q0, .int 0, .int 0, .int 0, .int 0, .int 0, .int 0, .int 0, .int 0, .int 0, .int 0, .long 0, .int 0, .ref q1, .ref q2, .ref q3, .ref q4, .ref q5, .ref q6, .ref q7, .ref q8, .int 0, .int 0, .int 0, .ref q9, .ref q10, .ref q11, .ref q12, .ref q13, .ref q14, .ref q15, .ref q16, .int 0, .int 0, .int 0, .int 0, .int 0, .ref q17, .ref q18, .int 0, .ref q19, .ref q20, .ref q21, .ref q22, .int 0, .int 0, .int 0, .int 0, .ref q23, .ref q24, .ref q25, .ref q26, .int 0, .int 0, .int 0, .null, .null, .int 0, .int 0, .null, .int 0, .int 0, .int 0, .int 0]) hin rfl ad_Md_init_226 am_f12_52 am_fl_Md_90 (by decide +kernel) rfl rfl (Nat.le_of_ble_eq_true rfl) rfl ?_
  refine an_Dal (pc := 229) ad_Md_init_229 hr0 ?_
  refine an_Dbi (pc := 230) ad_Md_init_230 ⟨by decide, by decide⟩ ?_
  refine an_Dna (pc := 232) (n0 := 27) (K := 14) (n := 8) (t0 := 1) (ty := .int) (atype := .int) (a0 := (8, .inl (fun _ => 0))) rfl (by decide +kernel) ad_Md_init_232 rfl am_ai (fun _ => rfl) (an_na14 8) (fun _ => rfl) (by decide) (by decide) (Nat.le_of_ble_eq_true rfl) (Nat.le_of_ble_eq_true rfl) (Nat.le_of_ble_eq_true rfl) fun q27 => ?_
  refine an_Dpf (pc := 234) (fty := .array .int) (fs1 := [.int 0, .ref q0, .int 0, .int 0, .int 0, .int 0, .int 0, .int 0, .int 0, .int 0, .int 0, .int 0, .long 0, .int 0, .ref q1, .ref q2, .ref q3, .ref q4, .ref q5, .ref q6, .ref q7, .ref q8, .int 0, .int 0, .int 0, .ref q9, .ref q10, .ref q11, .ref q12, .ref q13, .ref q14, .ref q15, .ref q16, .int 0, .int 0, .int 0, .int 0, .int 0, .ref q17, .ref q18, .int 0, .ref q19, .ref q20, .ref q21, .ref q22, .int 0, .int 0, .int 0, .int 0, .ref q23, .ref q24, .ref q25, .ref q26, .int 0, .int 0, .int 0, .ref q27, .null, .int 0, .int 0, .null, .int 0, .int 0, .int 0, .int 0]) hin rfl ad_Md_init_234 am_f12_56 am_fl_Md_93 (by decide +kernel) rfl rfl (Nat.le_of_ble_eq_true rfl) rfl ?_
  refine an_Dal (pc := 237) ad_Md_init_237 hr0 ?_
  refine an_Dbi (pc := 238) ad_Md_init_238 ⟨by decide, by decide⟩ ?_
  refine an_Dna (pc := 240) (n0 := 28) (K := 14) (n := 8) (t0 := 1) (ty := .int) (atype := .int) (a0 := (8, .inl (fun _ => 0))) rfl (by decide +kernel) ad_Md_init_240 rfl am_ai (fun _ => rfl) (an_na14 8) (fun _ => rfl) (by decide) (by decide) (Nat.le_of_ble_eq_true rfl) (Nat.le_of_ble_eq_true rfl) (Nat.le_of_ble_eq_true rfl) fun q28 => ?_
  refine an_Dpf (pc := 242) (fty := .array .int) (fs1 := [.int 0, .ref q0, .int 0, .int 0, .int 0, .int 0, .int 0, .int 0, .int 0, .int 0, .int 0, .int 0, .long 0, .int 0, .ref q1, .ref q2, .ref q3, .ref q4, .ref q5, .ref q6, .ref q7, .ref q8, .int 0, .int 0, .int 0, .ref q9, .ref q10, .ref q11, .ref q12, .ref q13, .ref q14, .ref q15, .ref q16, .int 0, .int 0, .int 0, .int 0, .int 0, .ref q17, .ref q18, .int 0, .ref q19, .ref q20, .ref q21, .ref q22, .int 0, .int 0, .int 0, .int 0, .ref q23, .ref q24, .ref q25, .ref q26, .int 0, .int 0, .int 0, .ref q27, .ref q28, .int 0, .int 0, .null, .int 0, .int 0, .int 0, .int 0]) hin rfl ad_Md_init_242 am_f12_57 am_fl_Md_96 (by decide +kernel) rfl rfl (Nat.le_of_ble_eq_true rfl) rfl ?_
  refine an_Dal (pc := 245) ad_Md_init_245 hr0 ?_
  refine an_Dsi (pc := 246) ad_Md_init_246 ⟨by decide, by decide⟩ ?_
  refine an_Dna (pc := 249) (n0 := 29) (K := 14) (n := 240) (t0 := 1) (ty := .int) (atype := .int) (a0 := (240, .inl (fun _ => 0))) rfl (by decide +kernel) ad_Md_init_249 rfl am_ai (fun _ => rfl) (an_na14 240) (fun _ => rfl) (by decide) (by decide) (Nat.le_of_ble_eq_true rfl) (Nat.le_of_ble_eq_true rfl) (Nat.le_of_ble_eq_true rfl) fun q29 => ?_
  refine an_Dpf (pc := 251) (fty := .array .int) (fs1 := [.int 0, .ref q0, .int 0, .int 0, .int 0, .int 0, .int 0, .int 0, .int 0, .int 0, .int 0, .int 0, .long 0, .int 0, .ref q1, .ref q2, .ref q3, .ref q4, .ref q5, .ref q6, .ref q7, .ref q8, .int 0, .int 0, .int 0, .ref q9, .ref q10, .ref q11, .ref q12, .ref q13, .ref q14, .ref q15, .ref q16, .int 0, .int 0, .int 0, .int 0, .int 0, .ref q17, .ref q18, .int 0, .ref q19, .ref q20, .ref q21, .ref q22, .int 0, .int 0, .int 0, .int 0, .ref q23, .ref q24, .ref q25, .ref q26, .int 0, .int 0, .int 0, .ref q27, .ref q28, .int 0, .int 0, .ref q29, .int 0, .int 0, .int 0, .int 0]) hin rfl ad_Md_init_251 am_f12_60 am_fl_Md_99 (by decide +kernel) rfl rfl (Nat.le_of_ble_eq_true rfl) rfl ?_
  refine an_Dfin (fun _ => 0) (fun _ => am_rg_0 _) (Nat.le_of_ble_eq_true rfl) rfl ?_
  refine an_DY (Y' := am_L12) rfl ?_
  exact an_Dret hAe ad_Md_init_254 rfl rfl ⟨rfl, rfl, rfl⟩ (Nat.le_of_ble_eq_true rfl) (Nat.le_of_ble_eq_true rfl)
