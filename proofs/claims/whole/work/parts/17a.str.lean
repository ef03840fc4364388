/-! the words' String constant: its length and its signs, by the kit's rows -/
def ak_len : am_M := (⟨"java/lang/String", "length", "()I"⟩, prog_21_method_54_code, 1, (some .int))
def ak_coder : am_M := (⟨"java/lang/String", "coder", "()B"⟩, prog_21_method_152_code, 1, (some .byte))
def ak_charAt : am_M := (⟨"java/lang/String", "charAt", "(I)C"⟩, prog_21_method_56_code, 2, (some .char))
def ak_lat : am_M := (⟨"java/lang/String", "isLatin1", "()Z"⟩, prog_21_method_154_code, 1, (some .boolean))
def ak_l1 : am_M := (⟨"java/lang/StringLatin1", "charAt", "([BI)C"⟩, prog_22_method_2_code, 2, (some .char))
def ak_ci : am_M := (⟨"java/lang/String", "checkIndex", "(II)V"⟩, prog_21_method_155_code, 2, none)
def ak_pc : am_M := (⟨"jdk/internal/util/Preconditions", "checkIndex", "(IILjava/util/function/BiFunction;)I"⟩, prog_30_method_11_code, 3, (some .int))
theorem ak_len_w : am_cv ak_len 0 := ⟨am_t 633 (by decide +kernel) (by decide +kernel), am_in_java_lang_String, am_t 631 (by decide +kernel) (by decide +kernel), am_t 632 (by decide +kernel) (by decide +kernel), ⟨by decide, by decide, by decide +kernel⟩, by decide⟩
theorem ak_coder_w : am_cv ak_coder 0 := ⟨am_t 637 (by decide +kernel) (by decide +kernel), am_in_java_lang_String, am_t 635 (by decide +kernel) (by decide +kernel), am_t 636 (by decide +kernel) (by decide +kernel), ⟨by decide, by decide, by decide +kernel⟩, by decide⟩
theorem ak_charAt_w : am_cv ak_charAt 1 := ⟨am_t 643 (by decide +kernel) (by decide +kernel), am_in_java_lang_String, am_t 641 (by decide +kernel) (by decide +kernel), am_t 642 (by decide +kernel) (by decide +kernel), ⟨by decide, by decide, by decide +kernel⟩, by decide⟩
theorem ak_lat_w : am_cv ak_lat 0 := ⟨am_t 647 (by decide +kernel) (by decide +kernel), am_in_java_lang_String, am_t 645 (by decide +kernel) (by decide +kernel), am_t 646 (by decide +kernel) (by decide +kernel), ⟨by decide, by decide, by decide +kernel⟩, by decide⟩
theorem ak_l1_w : am_cs_ ak_l1 2 := ⟨am_t 650 (by decide +kernel) (by decide +kernel), am_in_java_lang_StringLatin1, am_t 649 (by decide +kernel) (by decide +kernel), ⟨by decide, by decide, by decide +kernel⟩, by decide⟩
theorem ak_ci_w : am_cs_ ak_ci 2 := ⟨am_t 653 (by decide +kernel) (by decide +kernel), am_in_java_lang_String, am_t 652 (by decide +kernel) (by decide +kernel), ⟨by decide, by decide, by decide +kernel⟩, by decide⟩
theorem ak_pc_w : am_cs_ ak_pc 3 := ⟨am_t 658 (by decide +kernel) (by decide +kernel), am_in_jdk_internal_util_Preconditions, am_t 657 (by decide +kernel) (by decide +kernel), ⟨by decide, by decide, by decide +kernel⟩, by decide⟩
theorem ak_m335 : Cond.methodLink "java/lang/String" 335 ⟨"java/lang/String", "coder", "()B"⟩ ∈ am_ws := am_t 634 (by decide +kernel) (by decide +kernel)
theorem ak_m492 : Cond.methodLink "java/lang/String" 492 ⟨"java/lang/String", "isLatin1", "()Z"⟩ ∈ am_ws := am_t 644 (by decide +kernel) (by decide +kernel)
theorem ak_m495 : Cond.methodLink "java/lang/String" 495 ⟨"java/lang/StringLatin1", "charAt", "([BI)C"⟩ ∈ am_ws := am_t 648 (by decide +kernel) (by decide +kernel)
theorem ak_m9 : Cond.methodLink "java/lang/StringLatin1" 9 ⟨"java/lang/String", "checkIndex", "(II)V"⟩ ∈ am_ws := am_t 651 (by decide +kernel) (by decide +kernel)
theorem ak_m1059 : Cond.methodLink "java/lang/String" 1059 ⟨"jdk/internal/util/Preconditions", "checkIndex", "(IILjava/util/function/BiFunction;)I"⟩ ∈ am_ws := am_t 656 (by decide +kernel) (by decide +kernel)
theorem ak_f38 : Cond.fieldLink "java/lang/String" 38 "java/lang/String" "COMPACT_STRINGS" "Z" ∈ am_ws := am_t 638 (by decide +kernel) (by decide +kernel)
theorem ak_f9 : Cond.fieldLink "java/lang/String" 9 "java/lang/String" "value" "[B" ∈ am_ws := am_t 2006 (by decide +kernel) (by decide +kernel)
theorem ak_f15 : Cond.fieldLink "java/lang/String" 15 "java/lang/String" "coder" "B" ∈ am_ws := am_t 2007 (by decide +kernel) (by decide +kernel)
theorem ak_f1053 : Cond.fieldLink "java/lang/String" 1053 "jdk/internal/util/Preconditions" "SIOOBE_FORMATTER" "Ljava/util/function/BiFunction;" ∈ am_ws := am_t 654 (by decide +kernel) (by decide +kernel)
theorem ad_len_0 : decode prog_21_method_54_code 0 = .ok (.aload_n 0, 1) := by decide +kernel
theorem ad_len_1 : decode prog_21_method_54_code 1 = .ok (.getfield 9, 3) := by decide +kernel
theorem ad_len_4 : decode prog_21_method_54_code 4 = .ok (.arraylength, 1) := by decide +kernel
theorem ad_len_5 : decode prog_21_method_54_code 5 = .ok (.aload_n 0, 1) := by decide +kernel
theorem ad_len_6 : decode prog_21_method_54_code 6 = .ok (.invokevirtual 335, 3) := by decide +kernel
theorem ad_len_9 : decode prog_21_method_54_code 9 = .ok (.ishr, 1) := by decide +kernel
theorem ad_len_10 : decode prog_21_method_54_code 10 = .ok (.ireturn, 1) := by decide +kernel
theorem ad_coder_0 : decode prog_21_method_152_code 0 = .ok (.getstatic 38, 3) := by decide +kernel
theorem ad_coder_3 : decode prog_21_method_152_code 3 = .ok (.ifCond .eq 10, 3) := by decide +kernel
theorem ad_coder_6 : decode prog_21_method_152_code 6 = .ok (.aload_n 0, 1) := by decide +kernel
theorem ad_coder_7 : decode prog_21_method_152_code 7 = .ok (.getfield 15, 3) := by decide +kernel
theorem ad_coder_10 : decode prog_21_method_152_code 10 = .ok (.goto 4, 3) := by decide +kernel
theorem ad_coder_13 : decode prog_21_method_152_code 13 = .ok (.iconst 1, 1) := by decide +kernel
theorem ad_coder_14 : decode prog_21_method_152_code 14 = .ok (.ireturn, 1) := by decide +kernel
theorem ad_charAt_0 : decode prog_21_method_56_code 0 = .ok (.aload_n 0, 1) := by decide +kernel
theorem ad_charAt_1 : decode prog_21_method_56_code 1 = .ok (.invokevirtual 492, 3) := by decide +kernel
theorem ad_charAt_4 : decode prog_21_method_56_code 4 = .ok (.ifCond .eq 12, 3) := by decide +kernel
theorem ad_charAt_7 : decode prog_21_method_56_code 7 = .ok (.aload_n 0, 1) := by decide +kernel
theorem ad_charAt_8 : decode prog_21_method_56_code 8 = .ok (.getfield 9, 3) := by decide +kernel
theorem ad_charAt_11 : decode prog_21_method_56_code 11 = .ok (.iload_n 1, 1) := by decide +kernel
theorem ad_charAt_12 : decode prog_21_method_56_code 12 = .ok (.invokestatic 495, 3) := by decide +kernel
theorem ad_charAt_15 : decode prog_21_method_56_code 15 = .ok (.ireturn, 1) := by decide +kernel
theorem ad_charAt_16 : decode prog_21_method_56_code 16 = .ok (.aload_n 0, 1) := by decide +kernel
theorem ad_charAt_17 : decode prog_21_method_56_code 17 = .ok (.getfield 9, 3) := by decide +kernel
theorem ad_charAt_20 : decode prog_21_method_56_code 20 = .ok (.iload_n 1, 1) := by decide +kernel
theorem ad_charAt_21 : decode prog_21_method_56_code 21 = .ok (.invokestatic 498, 3) := by decide +kernel
theorem ad_charAt_24 : decode prog_21_method_56_code 24 = .ok (.ireturn, 1) := by decide +kernel
theorem ad_lat_0 : decode prog_21_method_154_code 0 = .ok (.getstatic 38, 3) := by decide +kernel
theorem ad_lat_3 : decode prog_21_method_154_code 3 = .ok (.ifCond .eq 14, 3) := by decide +kernel
theorem ad_lat_6 : decode prog_21_method_154_code 6 = .ok (.aload_n 0, 1) := by decide +kernel
theorem ad_lat_7 : decode prog_21_method_154_code 7 = .ok (.getfield 15, 3) := by decide +kernel
theorem ad_lat_10 : decode prog_21_method_154_code 10 = .ok (.ifCond .ne 7, 3) := by decide +kernel
theorem ad_lat_13 : decode prog_21_method_154_code 13 = .ok (.iconst 1, 1) := by decide +kernel
theorem ad_lat_14 : decode prog_21_method_154_code 14 = .ok (.goto 4, 3) := by decide +kernel
theorem ad_lat_17 : decode prog_21_method_154_code 17 = .ok (.iconst 0, 1) := by decide +kernel
theorem ad_lat_18 : decode prog_21_method_154_code 18 = .ok (.ireturn, 1) := by decide +kernel
theorem ad_l1_0 : decode prog_22_method_2_code 0 = .ok (.iload_n 1, 1) := by decide +kernel
theorem ad_l1_1 : decode prog_22_method_2_code 1 = .ok (.aload_n 0, 1) := by decide +kernel
theorem ad_l1_2 : decode prog_22_method_2_code 2 = .ok (.arraylength, 1) := by decide +kernel
theorem ad_l1_3 : decode prog_22_method_2_code 3 = .ok (.invokestatic 9, 3) := by decide +kernel
theorem ad_l1_6 : decode prog_22_method_2_code 6 = .ok (.aload_n 0, 1) := by decide +kernel
theorem ad_l1_7 : decode prog_22_method_2_code 7 = .ok (.iload_n 1, 1) := by decide +kernel
theorem ad_l1_8 : decode prog_22_method_2_code 8 = .ok (.baload, 1) := by decide +kernel
theorem ad_l1_9 : decode prog_22_method_2_code 9 = .ok (.sipush 255, 3) := by decide +kernel
theorem ad_l1_12 : decode prog_22_method_2_code 12 = .ok (.iand, 1) := by decide +kernel
theorem ad_l1_13 : decode prog_22_method_2_code 13 = .ok (.i2c, 1) := by decide +kernel
theorem ad_l1_14 : decode prog_22_method_2_code 14 = .ok (.ireturn, 1) := by decide +kernel
theorem ad_ci_0 : decode prog_21_method_155_code 0 = .ok (.iload_n 0, 1) := by decide +kernel
theorem ad_ci_1 : decode prog_21_method_155_code 1 = .ok (.iload_n 1, 1) := by decide +kernel
theorem ad_ci_2 : decode prog_21_method_155_code 2 = .ok (.getstatic 1053, 3) := by decide +kernel
theorem ad_ci_5 : decode prog_21_method_155_code 5 = .ok (.invokestatic 1059, 3) := by decide +kernel
theorem ad_ci_8 : decode prog_21_method_155_code 8 = .ok (.pop, 1) := by decide +kernel
theorem ad_ci_9 : decode prog_21_method_155_code 9 = .ok (.return_, 1) := by decide +kernel
theorem ad_pc_0 : decode prog_30_method_11_code 0 = .ok (.iload_n 0, 1) := by decide +kernel
theorem ad_pc_1 : decode prog_30_method_11_code 1 = .ok (.ifCond .lt 8, 3) := by decide +kernel
theorem ad_pc_4 : decode prog_30_method_11_code 4 = .ok (.iload_n 0, 1) := by decide +kernel
theorem ad_pc_5 : decode prog_30_method_11_code 5 = .ok (.iload_n 1, 1) := by decide +kernel
theorem ad_pc_6 : decode prog_30_method_11_code 6 = .ok (.if_icmp .lt 10, 3) := by decide +kernel
theorem ad_pc_9 : decode prog_30_method_11_code 9 = .ok (.aload_n 2, 1) := by decide +kernel
theorem ad_pc_10 : decode prog_30_method_11_code 10 = .ok (.iload_n 0, 1) := by decide +kernel
theorem ad_pc_11 : decode prog_30_method_11_code 11 = .ok (.iload_n 1, 1) := by decide +kernel
theorem ad_pc_12 : decode prog_30_method_11_code 12 = .ok (.invokestatic 95, 3) := by decide +kernel
theorem ad_pc_15 : decode prog_30_method_11_code 15 = .ok (.athrow, 1) := by decide +kernel
theorem ad_pc_16 : decode prog_30_method_11_code 16 = .ok (.iload_n 0, 1) := by decide +kernel
theorem ad_pc_17 : decode prog_30_method_11_code 17 = .ok (.ireturn, 1) := by decide +kernel
/-- a library method's contract: the world is as it was, it answers v -/
def ak_M (M : am_M) (d : Nat) (av : Nat × Nat → List Value) (v : Option Int) : Prop :=
  ∀ (l : Launch) (G : am_G) (A : Nat → Prop) (Y : am_Y) (h : am_H), va_D A (am_c G.2.1 G.2.2.1 Y h) → am_ok Y h →
    Met l M.1 (.code M.1 M.2.1 M.2.2.1 M.2.2.2 :: am_ws) (am_rm d) (va_Pc (av G.2.2.2) (am_W G A Y h)) (am_Q G A Y (fun r h1 => h1 = h ∧ r = v.map .inl)) 0 0 A
theorem ak_M.of {M : am_M} {d : Nat} {av : Nat × Nat → List Value} {v : Option Int} (hpl : plainName M.1.cls = true) (hle : ∀ sa, (lg_sl (av sa)).length ≤ M.2.2.1)
    (k : ∀ (p : Program) (l : Launch) (e : Env) (s : State) (m : MethodId) (args : Array Value) (below : List Frame) (meth : Method) (c : Code) (G : am_G) (A : Nat → Prop) (Y : am_Y) (h : am_H) (H : Heap) (locs : List Loc) (r : Array Slot),
      am_X M p s m args meth c G A → va_P G.1 am_cl (am_c G.2.1 G.2.2.1 Y h) H → va_D A (am_c G.2.1 G.2.2.1 Y h) → va_S A s.heap H locs → am_ok Y h → lv_has r M.2.2.1 (lv_args 0 (av G.2.2.2)) →
      W p l e (am_rm d) s m args below meth c H locs 0 0 (MQ below (am_Q G A Y (fun r h1 => h1 = h ∧ r = v.map .inl)) args s 0 0 A) (F0 m 0 r [])) : ak_M M d av v := by
  intro l G A Y h hD hok
  refine Met.ofW (cc := M.2.1) (maxL := M.2.2.1) (ret := M.2.2.2) hpl rfl ?_
  intro p e s m args below meth c s₁ B hml hv
  obtain ⟨rfl, hP, hK, hn, hstr⟩ := hv
  have hts := atoms_spec (ws := .code M.1 M.2.1 M.2.2.1 M.2.2.2 :: am_ws) B.pre
  have X : am_X M p s m (av G.2.2.2).toArray meth c G A := ⟨B.exec, B.bytes, hml, B.returns, findClass_of_methodNamed B.named, B.notSynchronized, fun w hw => hts w (List.mem_cons_of_mem _ hw), hn, hK, hstr⟩
  have hl := lv_entry (av G.2.2.2) (n := M.2.2.1) (hle _)
  rw [lg_entry_eq]
  generalize (lg_sl (av G.2.2.2) ++ List.replicate (M.2.2.1 - (lg_sl (av G.2.2.2)).length) Slot.unset).toArray = r at hl ⊢
  exact k p l e s m _ below meth c G A Y h s.heap [] r X hP hD va_S.rf hok hl
section
variable {p : Program} {l : Launch} {e : Env} {s : State} {m : MethodId} {args : Array Value} {below : List Frame} {meth : Method} {c : Code} {G : am_G} {A : Nat → Prop} {Y : am_Y} {h : am_H} {H : Heap} {locs : List Loc} {r : Array Slot}
variable {M M' : am_M} {d d' pc : Nat} {E : State → Prop} {rest st1 As : List Value} {v : Option Int} {av : Nat × Nat → List Value}
theorem ak_iret {x : Int} {ty : FieldType} (X : am_X M p s m args meth c G A) (hP : va_P G.1 am_cl (am_c G.2.1 G.2.2.1 Y h) H) (hS : va_S A s.heap H locs) (ho : am_ok Y h) (hx : am_ri x) (hr : M.2.2.2 = some ty) (hn : narrow ty (.int (Int32.ofInt x)) = .int (Int32.ofInt x)) (hd : decode M.2.1 pc = .ok (.ireturn, 1)) :
    W p l e (am_rm d) s m args below meth c H locs 0 0 (MQ below (am_Q G A Y (fun r h1 => h1 = h ∧ r = (some x).map .inl)) args s 0 0 A) (F0 m pc r [.int (Int32.ofInt x)]) :=
  W.zret X.1 X.2.1 (X.2.2.2.1.trans hr) hn (fun t ht _ => ⟨⟨some (.inl x), h, rfl, ⟨rfl, rfl⟩, ho, fun v hv => by cases hv; exact hx, by rw [ht]; exact hP⟩, hS.F ht⟩) hS.2.2 hd X.2.2.2.2.2.1
theorem ak_vret (X : am_X M p s m args meth c G A) (hP : va_P G.1 am_cl (am_c G.2.1 G.2.2.1 Y h) H) (hS : va_S A s.heap H locs) (ho : am_ok Y h) (hr : M.2.2.2 = none) (hd : decode M.2.1 pc = .ok (.return_, 1)) :
    W p l e (am_rm d) s m args below meth c H locs 0 0 (MQ below (am_Q G A Y (fun r h1 => h1 = h ∧ r = (none : Option Int).map .inl)) args s 0 0 A) (F0 m pc r []) :=
  W.vret X.1 X.2.1 (X.2.2.2.1.trans hr) (fun t ht _ => ⟨⟨none, h, rfl, ⟨rfl, rfl⟩, ho, fun v hv => (by cases hv), by rw [ht]; exact hP⟩, hS.F ht⟩) hS.2.2 hd X.2.2.2.2.2.1
theorem ak_behind {a : Array Value} (hr : va_Run p l e (am_rm d) s m args below meth c H locs 0 0 0 0 (F0 m pc r st1) rest (am_Q G A Y (fun r h1 => h1 = h ∧ r = v.map .inl) a) A) (hS : va_S A s.heap H locs)
    (kk : ∀ (H1 : Heap) (locs1 : List Loc), va_P G.1 am_cl (am_c G.2.1 G.2.2.1 Y h) H1 → va_S A s.heap H1 locs1 → W p l e (am_rm d) s m args below meth c H1 locs1 0 0 E (F0 m (pc + 3) r ((v.map fun x => Value.int (Int32.ofInt x)).toList ++ rest))) :
    W p l e (am_rm d) s m args below meth c H locs 0 0 E (F0 m pc r st1) := by
  intro T hT X0
  obtain ⟨vv, st₀, t, T', L, h0, X', hL, e1, e2, ⟨⟨rv, h1, hv, ⟨g1, g2⟩, hok, hrv, hP1⟩, hz, hk⟩, stp⟩ := hr T hT X0
  subst g1
  subst g2
  cases hv
  rw [h0] at hz hk
  have hS1 : va_S A s.heap T'.heap (locs ++ L) := ⟨Nat.le_trans hS.1 (by rw [e1]; exact hz), fun q h1 h2 => by rw [e1, hk q (Nat.lt_of_lt_of_le h1 hS.1) h2]; exact hS.2.1 q h1 h2, fun q hq => by
      rcases List.mem_append.mp hq with h | h
      · exact hS.2.2 q h
      · exact hL q h⟩
  obtain ⟨t2, a1, b1⟩ := kk T'.heap (locs ++ L) (by rw [e1]; exact hP1) hS1 T' rfl X'
  refine ⟨t2, stp t2 ?_, b1⟩
  have e3 : ((v.map (Sum.inl : Int → am_V)).map (am_vv G.2.1)).toList ++ rest = (v.map fun x => Value.int (Int32.ofInt x)).toList ++ rest := by cases v <;> rfl
  show Steps p.tables e below (T'.setTop { method := m, pc := pc + 3, locals := r, stack := ((v.map (Sum.inl : Int → am_V)).map (am_vv G.2.1)).toList ++ rest, locked := none }) t2
  rw [e3]
  exact a1
theorem ak_callS {idx n : Nat} (X : am_X M p s m args meth c G A) (hP : va_P G.1 am_cl (am_c G.2.1 G.2.2.1 Y h) H) (hD : va_D A (am_c G.2.1 G.2.2.1 Y h)) (hS : va_S A s.heap H locs) (ho : am_ok Y h) (hr : r.size = M.2.2.1)
    (hd : decode M.2.1 pc = .ok (.invokestatic idx, 3)) (hw : am_cs_ M' n) (hl : Cond.methodLink M.1.cls idx M'.1 ∈ am_ws) (hdd : d' < d) (hM : ak_M M' d' av v) (hav : av G.2.2.2 = As) (hn : As.length = n) (hst : st1 = As.reverse ++ rest) (hrs : (rest.map fun v => v.category).sum ≤ 8)
    (kk : ∀ (H1 : Heap) (locs1 : List Loc), va_P G.1 am_cl (am_c G.2.1 G.2.2.1 Y h) H1 → va_S A s.heap H1 locs1 → W p l e (am_rm d) s m args below meth c H1 locs1 0 0 E (F0 m (pc + 3) r ((v.map fun x => Value.int (Int32.ofInt x)).toList ++ rest))) :
    W p l e (am_rm d) s m args below meth c H locs 0 0 E (F0 m pc r st1) := by
  subst hst
  subst hav
  have hW := X.2.2.2.2.2.2.1
  exact ak_behind (v := v) (a := (av G.2.2.2).toArray) (va_runS (As := av G.2.2.2) (own := M.1.cls) (nL := M.2.2.1) (Ts := am_ws) ⟨X.1, X.2.1, X.2.2.1, X.2.2.2.2.1, hW⟩ (hM l G A Y h hD ho)
      ⟨callB_of n hW (am_gws hw.1) rfl rfl rfl (hW _ hw.2.1) (hW _ hl) hw.2.2.2.1 (am_roomR rfl hdd hw.2.2.2.2), hW _ hw.2.2.1⟩
      ⟨am_W.blind, fun U hU hWU => ⟨rfl, am_W.at hP X.2.2.2.2.2.2.2.2.1 X.2.2.2.2.2.2.2.1 X.2.2.2.2.2.2.2.2.2 hS hU hWU⟩⟩ rfl hn hr rfl (lv_room hrs) hd ⟨Nat.le_refl _, Nat.le_refl _⟩) hS kk
theorem ak_callV {idx n : Nat} (X : am_X M p s m args meth c G A) (hP : va_P G.1 am_cl (am_c G.2.1 G.2.2.1 Y h) H) (hD : va_D A (am_c G.2.1 G.2.2.1 Y h)) (hS : va_S A s.heap H locs) (ho : am_ok Y h) (hr : r.size = M.2.2.1)
    (hd : decode M.2.1 pc = .ok (.invokevirtual idx, 3)) (hw : am_cv M' n) (hc : M'.1.cls = "java/lang/String") (hl : Cond.methodLink M.1.cls idx M'.1 ∈ am_ws) (hdd : d' < d) (hM : ak_M M' d' av v) (hav : av G.2.2.2 = .ref G.2.2.2.1 :: As) (hn : As.length = n) (hst : st1 = As.reverse ++ .ref G.2.2.2.1 :: rest) (hrs : (rest.map fun v => v.category).sum ≤ 8)
    (kk : ∀ (H1 : Heap) (locs1 : List Loc), va_P G.1 am_cl (am_c G.2.1 G.2.2.1 Y h) H1 → va_S A s.heap H1 locs1 → W p l e (am_rm d) s m args below meth c H1 locs1 0 0 E (F0 m (pc + 3) r ((v.map fun x => Value.int (Int32.ofInt x)).toList ++ rest))) :
    W p l e (am_rm d) s m args below meth c H locs 0 0 E (F0 m pc r st1) := by
  subst hst
  have hW := X.2.2.2.2.2.2.1
  have hMet := hM l G A Y h hD ho
  rw [hav] at hMet
  have hrec := vk_recv (i := 0) X.2.2.2.2.2.2.2.2.2.2.1 (by decide) hS
  exact ak_behind (v := v) (a := (Value.ref G.2.2.2.1 :: As).toArray) (va_runV (As := As) (b := G.2.2.2.1) (C := M'.1.cls) (own := M.1.cls) (nL := M.2.2.1) (Ts := am_ws) ⟨X.1, X.2.1, X.2.2.1, X.2.2.2.2.1, hW⟩ hMet
      ⟨callB_of n hW (am_gws hw.1) rfl rfl rfl (hW _ hw.2.1) (hW _ hl) hw.2.2.2.2.1 (am_roomR rfl hdd hw.2.2.2.2.2), hW _ hw.2.2.1, hW _ hw.2.2.2.1⟩
      ⟨am_W.blind, by rw [hc]; exact hrec, fun U hU hWU => ⟨rfl, am_W.at hP X.2.2.2.2.2.2.2.2.1 X.2.2.2.2.2.2.2.1 X.2.2.2.2.2.2.2.2.2 hS hU hWU⟩⟩ rfl hn hr rfl (lv_room hrs) hd ⟨Nat.le_refl _, Nat.le_refl _⟩) hS kk
end
theorem am_X.str {M : am_M} {p : Program} {s : State} {m : MethodId} {args : Array Value} {meth : Method} {c : Code} {G : am_G} {A : Nat → Prop} (X : am_X M p s m args meth c G A) : am_str G.2.2.2 A s s.heap := X.2.2.2.2.2.2.2.2.2
theorem ak_coderC {d : Nat} : ak_M ak_coder d (fun sa => [.ref sa.1]) (some 0) := by
  refine ak_M.of (by decide) (fun _ => Nat.le_of_ble_eq_true rfl) fun p l e s m args below meth c G A Y h H locs r X hP hD hS ho hr => ?_
  obtain ⟨-, hE, hZ, -⟩ := X.str
  have hW := X.2.2.2.2.2.2.1
  refine va_gets (pc := 0) X.1 X.2.1 hZ hS X.2.2.2.2.1 (hW _ ak_f38) (fun x hx => hx) ad_coder_0 ?_
  refine lv_if_eq (pc := 3) (tgt := 13) X.1 X.2.1 ad_coder_3 (by decide) (fun z => absurd z (by decide)) fun _ => ?_
  refine lv_aload_n (pc := 6) X.1 X.2.1 ad_coder_6 rfl (lv_at hr 0 rfl) ?_
  refine vk_getf (pc := 7) X.1 X.2.1 (hE.1 0 (by decide)).2.1 hS X.2.2.2.2.1 (hW _ ak_f15) (fun x hx => hx) ad_coder_7 ?_
  refine lv_goto (pc := 10) (tgt := 14) X.1 X.2.1 ad_coder_10 (by decide) ?_
  exact ak_iret (x := 0) X hP hS ho ⟨by decide, by decide⟩ rfl rfl ad_coder_14
theorem ak_latC {d : Nat} : ak_M ak_lat d (fun sa => [.ref sa.1]) (some 1) := by
  refine ak_M.of (by decide) (fun _ => Nat.le_of_ble_eq_true rfl) fun p l e s m args below meth c G A Y h H locs r X hP hD hS ho hr => ?_
  obtain ⟨-, hE, hZ, -⟩ := X.str
  have hW := X.2.2.2.2.2.2.1
  refine va_gets (pc := 0) X.1 X.2.1 hZ hS X.2.2.2.2.1 (hW _ ak_f38) (fun x hx => hx) ad_lat_0 ?_
  refine lv_if_eq (pc := 3) (tgt := 17) X.1 X.2.1 ad_lat_3 (by decide) (fun z => absurd z (by decide)) fun _ => ?_
  refine lv_aload_n (pc := 6) X.1 X.2.1 ad_lat_6 rfl (lv_at hr 0 rfl) ?_
  refine vk_getf (pc := 7) X.1 X.2.1 (hE.1 0 (by decide)).2.1 hS X.2.2.2.2.1 (hW _ ak_f15) (fun x hx => hx) ad_lat_7 ?_
  refine lv_if_ne (pc := 10) (tgt := 17) X.1 X.2.1 ad_lat_10 (by decide) (fun z => absurd rfl z) fun _ => ?_
  refine lv_iconst (pc := 13) (v := 1) X.1 X.2.1 ad_lat_13 rfl ?_
  refine lv_goto (pc := 14) (tgt := 18) X.1 X.2.1 ad_lat_14 (by decide) ?_
  exact ak_iret (x := 1) X hP hS ho ⟨by decide, by decide⟩ rfl rfl ad_lat_18
theorem ak_lenC {d : Nat} : ak_M ak_len (d + 1) (fun sa => [.ref sa.1]) (some 135) := by
  refine ak_M.of (by decide) (fun _ => Nat.le_of_ble_eq_true rfl) fun p l e s m args below meth c G A Y h H locs r X hP hD hS ho hr => ?_
  obtain ⟨-, hE, hZ, -⟩ := X.str
  have hW := X.2.2.2.2.2.2.1
  refine lv_aload_n (pc := 0) X.1 X.2.1 ad_len_0 rfl (lv_at hr 0 rfl) ?_
  refine vk_getf (pc := 1) X.1 X.2.1 (hE.1 0 (by decide)).2.2.1 hS X.2.2.2.2.1 (hW _ ak_f9) (fun x hx => hx) ad_len_1 ?_
  refine va_tlen (pc := 4) (v := 135) X.1 X.2.1 (hE.1 0 (by decide)).2.2.2 hS rfl ad_len_4 ?_
  refine lv_aload_n (pc := 5) X.1 X.2.1 ad_len_5 rfl (lv_at hr 0 rfl) ?_
  refine ak_callV (pc := 6) (As := []) (d' := d) (v := some 0) X hP hD hS ho hr.1 ad_len_6 ak_coder_w rfl ak_m335 (Nat.lt_succ_self d) ak_coderC rfl rfl rfl (by decide) fun H1 locs1 hP1 hS1 => ?_
  refine lv_ishr (pc := 9) X.1 X.2.1 ad_len_9 ?_
  exact ak_iret (x := 135) X hP1 hS1 ho ⟨by decide, by decide⟩ rfl rfl ad_len_10
theorem ak_pcC {d : Nat} {i : Int} {w : Value} (h0 : 0 ≤ i) (h1 : i < 135) (hw : w.category = 1) : ak_M ak_pc d (fun _ => [.int (Int32.ofInt i), .int (Int32.ofInt 135), w]) (some i) := by
  have hi : am_ri i := ⟨by omega, by omega⟩
  refine ak_M.of (by decide) (fun _ => ?_) fun p l e s m args below meth c G A Y h H locs r X hP hD hS ho hr => ?_
  · cases w <;> first | exact Nat.le_of_ble_eq_true rfl | cases hw
  have r0 : r[0]? = some (.val (.int (Int32.ofInt i))) := lv_at hr 0 rfl
  have r1 : r[1]? = some (.val (.int (Int32.ofInt 135))) := lv_at hr 1 rfl
  refine lv_iload_n (pc := 0) X.1 X.2.1 ad_pc_0 rfl r0 ?_
  refine lv_if_lt (pc := 1) (tgt := 9) X.1 X.2.1 ad_pc_1 (by decide) (fun z => ?_) fun _ => ?_
  · have := (am_ilt hi (y := 0) ⟨by decide, by decide⟩).mp z
    omega
  refine lv_iload_n (pc := 4) X.1 X.2.1 ad_pc_4 rfl r0 ?_
  refine lv_iload_n (pc := 5) X.1 X.2.1 ad_pc_5 rfl r1 ?_
  refine lv_icmp_lt (pc := 6) (tgt := 16) X.1 X.2.1 ad_pc_6 (by decide) (fun _ => ?_) fun z => absurd ((am_ilt hi ⟨by decide, by decide⟩).mpr h1) z
  refine lv_iload_n (pc := 16) X.1 X.2.1 ad_pc_16 rfl r0 ?_
  exact ak_iret (x := i) X hP hS ho hi rfl rfl ad_pc_17
theorem ak_ciC {d : Nat} {i : Int} (h0 : 0 ≤ i) (h1 : i < 135) : ak_M ak_ci (d + 1) (fun _ => [.int (Int32.ofInt i), .int (Int32.ofInt 135)]) none := by
  refine ak_M.of (by decide) (fun _ => Nat.le_of_ble_eq_true rfl) fun p l e s m args below meth c G A Y h H locs r X hP hD hS ho hr => ?_
  obtain ⟨-, -, -, hq⟩ := X.str
  have hW := X.2.2.2.2.2.2.1
  refine lv_iload_n (pc := 0) X.1 X.2.1 ad_ci_0 rfl (lv_at hr 0 rfl) ?_
  refine lv_iload_n (pc := 1) X.1 X.2.1 ad_ci_1 rfl (lv_at hr 1 rfl) ?_
  have go : ∀ w : Value, w.category = 1 → W p l e (am_rm (d + 1)) s m args below meth c H locs 0 0 (MQ below (am_Q G A Y (fun r h1 => h1 = h ∧ r = (none : Option Int).map .inl)) args s 0 0 A) (F0 m 5 r [w, .int (Int32.ofInt 135), .int (Int32.ofInt i)]) := by
    intro w hw
    refine ak_callS (pc := 5) (As := [.int (Int32.ofInt i), .int (Int32.ofInt 135), w]) (d' := d) (v := some i) (rest := []) X hP hD hS ho hr.1 ad_ci_5 ak_pc_w ak_m1059 (Nat.lt_succ_self d) (ak_pcC h0 h1 hw) rfl rfl rfl (by decide) fun H1 locs1 hP1 hS1 => ?_
    refine lv_pop (pc := 8) X.1 X.2.1 ad_ci_8 rfl ?_
    exact ak_vret X hP1 hS1 ho rfl ad_ci_9
  rcases hq with hq | ⟨t, hq⟩
  · exact va_gets (pc := 2) X.1 X.2.1 hq hS X.2.2.2.2.1 (hW _ ak_f1053) (fun x hx => hx) ad_ci_2 (go _ rfl)
  · exact va_gets (pc := 2) X.1 X.2.1 hq hS X.2.2.2.2.1 (hW _ ak_f1053) (fun x hx => hx) ad_ci_2 (go _ rfl)
/-- the signs of the text, as numbers -/
def ak_bt : List Int := am_bt.map fun b => b.toInt
theorem ak_sign : ∀ k : Fin 135, ((((am_bt.getD k.val 0) &&& (Int16.ofInt 255).toInt32).toUInt32 % 65536).toInt32 = Int32.ofInt (ak_bt.getD k.val 0)) ∧ am_ri (ak_bt.getD k.val 0) ∧ narrow .char (.int (Int32.ofInt (ak_bt.getD k.val 0))) = .int (Int32.ofInt (ak_bt.getD k.val 0)) := by
  intro k
  refine ⟨?_, ?_, ?_⟩
  · revert k; decide +kernel
  · have t : ∀ k : Fin 135, -2147483648 ≤ ak_bt.getD k.val 0 ∧ ak_bt.getD k.val 0 < 2147483648 := by decide +kernel
    exact t k
  · have t : ∀ k : Fin 135, ((Int32.ofInt (ak_bt.getD k.val 0)).toUInt32 % 65536).toInt32 = Int32.ofInt (ak_bt.getD k.val 0) := by decide +kernel
    have u := pk_nc (Int32.ofInt (ak_bt.getD k.val 0))
    rw [t k] at u
    exact u
theorem ak_l1C {d : Nat} {i : Int} (h0 : 0 ≤ i) (h1 : i < 135) : ak_M ak_l1 (d + 2) (fun sa => [.ref sa.2, .int (Int32.ofInt i)]) (some (ak_bt.getD i.toNat 0)) := by
  have hi : am_ri i := ⟨by omega, by omega⟩
  obtain ⟨s1, s2, s3⟩ := ak_sign ⟨i.toNat, by omega⟩
  refine ak_M.of (by decide) (fun _ => Nat.le_of_ble_eq_true rfl) fun p l e s m args below meth c G A Y h H locs r X hP hD hS ho hr => ?_
  obtain ⟨-, hE, -, -⟩ := X.str
  have hW := X.2.2.2.2.2.2.1
  have r0 : r[0]? = some (.val (.ref G.2.2.2.2)) := lv_at hr 0 rfl
  have r1 : r[1]? = some (.val (.int (Int32.ofInt i))) := lv_at hr 1 rfl
  refine lv_iload_n (pc := 0) X.1 X.2.1 ad_l1_0 rfl r1 ?_
  refine lv_aload_n (pc := 1) X.1 X.2.1 ad_l1_1 rfl r0 ?_
  refine va_tlen (pc := 2) (v := Int32.ofInt 135) X.1 X.2.1 (hE.1 0 (by decide)).2.2.2 hS rfl ad_l1_2 ?_
  refine ak_callS (pc := 3) (As := [.int (Int32.ofInt i), .int (Int32.ofInt 135)]) (d' := d + 1) (v := none) (rest := []) X hP hD hS ho hr.1 ad_l1_3 ak_ci_w ak_m9 (Nat.lt_succ_self _) (ak_ciC h0 h1) rfl rfl rfl (by decide) fun H1 locs1 hP1 hS1 => ?_
  refine lv_aload_n (pc := 6) X.1 X.2.1 ad_l1_6 rfl r0 ?_
  refine lv_iload_n (pc := 7) X.1 X.2.1 ad_l1_7 rfl r1 ?_
  have hT := (hE.1 0 (by decide)).2.2.2
  rw [List.getD_cons_zero, List.getD_cons_zero] at hT
  refine va_tb (pc := 8) (v := .int (am_bt.getD i.toNat 0)) X.1 X.2.1 hT hS1 (am_in hi h0 (by show i < ((135 : Nat) : Int); omega)) (by rw [am_cn hi]) ad_l1_8 ?_
  refine lv_sipush (pc := 9) X.1 X.2.1 ad_l1_9 rfl ?_
  refine lv_iand (pc := 12) X.1 X.2.1 ad_l1_12 ?_
  refine lv_i2c (pc := 13) (v := Int32.ofInt (ak_bt.getD i.toNat 0)) X.1 X.2.1 ad_l1_13 s1 ?_
  exact ak_iret (x := ak_bt.getD i.toNat 0) X hP1 hS1 ho s2 rfl s3 ad_l1_14
theorem ak_charAtC {d : Nat} {i : Int} (h0 : 0 ≤ i) (h1 : i < 135) : ak_M ak_charAt (d + 3) (fun sa => [.ref sa.1, .int (Int32.ofInt i)]) (some (ak_bt.getD i.toNat 0)) := by
  obtain ⟨-, s2, s3⟩ := ak_sign ⟨i.toNat, by omega⟩
  refine ak_M.of (by decide) (fun _ => Nat.le_of_ble_eq_true rfl) fun p l e s m args below meth c G A Y h H locs r X hP hD hS ho hr => ?_
  obtain ⟨-, hE, -, -⟩ := X.str
  have hW := X.2.2.2.2.2.2.1
  have r0 : r[0]? = some (.val (.ref G.2.2.2.1)) := lv_at hr 0 rfl
  have r1 : r[1]? = some (.val (.int (Int32.ofInt i))) := lv_at hr 1 rfl
  refine lv_aload_n (pc := 0) X.1 X.2.1 ad_charAt_0 rfl r0 ?_
  refine ak_callV (pc := 1) (As := []) (d' := d) (v := some 1) (rest := []) X hP hD hS ho hr.1 ad_charAt_1 ak_lat_w rfl ak_m492 (by omega) ak_latC rfl rfl rfl (by decide) fun H1 locs1 hP1 hS1 => ?_
  refine lv_if_eq (pc := 4) (tgt := 16) X.1 X.2.1 ad_charAt_4 (by decide) (fun z => absurd z (by decide)) fun _ => ?_
  refine lv_aload_n (pc := 7) X.1 X.2.1 ad_charAt_7 rfl r0 ?_
  refine vk_getf (pc := 8) X.1 X.2.1 (hE.1 0 (by decide)).2.2.1 hS1 X.2.2.2.2.1 (hW _ ak_f9) (fun x hx => hx) ad_charAt_8 ?_
  refine lv_iload_n (pc := 11) X.1 X.2.1 ad_charAt_11 rfl r1 ?_
  refine ak_callS (pc := 12) (As := [.ref G.2.2.2.2, .int (Int32.ofInt i)]) (d' := d + 2) (v := some (ak_bt.getD i.toNat 0)) (rest := []) X hP1 hD hS1 ho hr.1 ad_charAt_12 ak_l1_w ak_m495 (Nat.lt_succ_self _) (ak_l1C h0 h1) rfl rfl rfl (by decide) fun H2 locs2 hP2 hS2 => ?_
  exact ak_iret (x := ak_bt.getD i.toNat 0) X hP2 hS2 ho s2 rfl s3 ad_charAt_15
