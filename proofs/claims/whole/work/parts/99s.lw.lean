/-! the law's own helpers: they catch what is thrown -/
def an_LM (M : am_M) (hh : List (Nat × Nat × Nat × Nat)) (d : Nat) (Y : am_Y) (av : List am_V) (h : am_H) (Q : Option am_V → am_H → Prop) : Prop :=
  ∀ (l : Launch) (G : am_G) (A : Nat → Prop), l.stackTraces = false → va_D A (am_c G.2.1 G.2.2.1 Y h) → am_ok Y h → (∀ v ∈ av, am_rv v) →
    Met l M.1 (.codeWith M.1 M.2.1 M.2.2.1 M.2.2.2 hh :: am_ws) (an_rx d) (va_Pc (av.map (am_vv G.2.1)) (an_Wx G A Y h)) (am_Q G A Y Q) 1 6 A
theorem an_LM.of {M : am_M} {hh : List (Nat × Nat × Nat × Nat)} {d : Nat} {Y : am_Y} {av : List am_V} {h : am_H} {Q : Option am_V → am_H → Prop} {ls : am_L} (hpl : plainName M.1.cls = true) (hls : am_en av ++ List.replicate (M.2.2.1 - (am_en av).length) none = ls) (hle : (am_en av).length ≤ M.2.2.1)
    (k : ∀ (p : Program) (l : Launch) (e : Env) (s : State) (m : MethodId) (args : Array Value) (below : List Frame) (meth : Method) (c : Code) (G : am_G) (A : Nat → Prop), l.stackTraces = false → an_ZZ A s s.heap → c.exceptionTable.toList = tableOf hh →
      an_W p l e (an_rx d) s m args below meth c G A 0 0 (MQ below (am_Q G A Y Q) args s 1 6 A) M Y 0 ls [] h) : an_LM M hh d Y av h Q := by
  subst hls
  intro l G A hl0 hD hok hav
  refine va_MetW (cc := M.2.1) (maxL := M.2.2.1) (ret := M.2.2.2) (hh := hh) hpl rfl ?_
  intro p e s m args below meth c s₁ B hml hv
  obtain ⟨rfl, ⟨hP, hK, hn, hstr⟩, hZ⟩ := hv
  have hts := atoms_spec (ws := .codeWith M.1 M.2.1 M.2.2.1 M.2.2.2 hh :: am_ws) B.pre
  have X : am_X M p s m (av.map (am_vv G.2.1)).toArray meth c G A := ⟨B.exec, B.bytes, hml, B.returns, findClass_of_methodNamed B.named, B.notSynchronized, fun w hw => hts w (List.mem_cons_of_mem _ hw), hn, hK, hstr⟩
  have hT : c.exceptionTable.toList = tableOf hh := vx_table (x := M.1) B (hts _ List.mem_cons_self)
  have hl := lv_entry (av.map (am_vv G.2.1)) (n := M.2.2.1) (by rw [am_en_len]; exact hle)
  rw [lg_entry_eq]
  generalize (lg_sl (av.map (am_vv G.2.1)) ++ List.replicate (M.2.2.1 - (lg_sl (av.map (am_vv G.2.1))).length) Slot.unset).toArray = r at hl ⊢
  have hpre : ∀ (i : Nat) (v : am_V), (am_en av ++ List.replicate (M.2.2.1 - (am_en av).length) none)[i]? = some (some v) → (am_en av)[i]? = some (some v) := by
    intro i v hv
    by_cases hi : i < (am_en av).length
    · rwa [List.getElem?_append_left hi] at hv
    · rw [List.getElem?_append_right (by omega)] at hv
      have := List.getElem?_eq_some_iff.mp hv
      obtain ⟨h1, h2⟩ := this
      simp at h2
  exact k p l e s m _ below meth c G A hl0 hZ hT X s.heap [] r hP hD va_S.rf hok (fun i v hv => hav v (am_en_at G.2.1 av i v 0 (hpre i v hv)).1) (fun v hv => by simp at hv) ⟨hl.1, hl.2.1, fun i v hv => by
    have h1 := hl.2.2 _ (am_en_at G.2.1 av i v 0 (hpre i v hv)).2
    simpa using h1⟩
theorem an_lk : Cond.classLink "NightHelpLaw" 13 an_xE ∈ am_ws := am_t 1273 (by decide +kernel) (by decide +kernel)
def an_lq (o : Nat) (B : Prop) (F : Int) (K Xq : am_H → Prop) : Option am_V → am_H → Prop := fun r h2 => (r = some (.inl 0) ∧ B ∧ ∃ h1, K h1 ∧ h2 = am_u h1 o 0 F) ∨ (r = some (.inl 1) ∧ Xq h2)
def am_Lw_help : am_M := (⟨"NightHelpLaw", "help", "(LNightHelp;II[J)I"⟩, method_3_code, 5, (some .int))
theorem ad_Lw_help_0 : decode method_3_code 0 = .ok (.aload_n 3, 1) := by decide +kernel
theorem ad_Lw_help_1 : decode method_3_code 1 = .ok (.iconst 0, 1) := by decide +kernel
theorem ad_Lw_help_2 : decode method_3_code 2 = .ok (.aload_n 0, 1) := by decide +kernel
theorem ad_Lw_help_3 : decode method_3_code 3 = .ok (.iload_n 1, 1) := by decide +kernel
theorem ad_Lw_help_4 : decode method_3_code 4 = .ok (.iload_n 2, 1) := by decide +kernel
theorem ad_Lw_help_5 : decode method_3_code 5 = .ok (.invokevirtual 7, 3) := by decide +kernel
theorem ad_Lw_help_8 : decode method_3_code 8 = .ok (.i2l, 1) := by decide +kernel
theorem ad_Lw_help_9 : decode method_3_code 9 = .ok (.lastore, 1) := by decide +kernel
theorem ad_Lw_help_10 : decode method_3_code 10 = .ok (.goto 7, 3) := by decide +kernel
theorem ad_Lw_help_13 : decode method_3_code 13 = .ok (.astore 4, 2) := by decide +kernel
theorem ad_Lw_help_15 : decode method_3_code 15 = .ok (.iconst 1, 1) := by decide +kernel
theorem ad_Lw_help_16 : decode method_3_code 16 = .ok (.ireturn, 1) := by decide +kernel
theorem ad_Lw_help_17 : decode method_3_code 17 = .ok (.iconst 0, 1) := by decide +kernel
theorem ad_Lw_help_18 : decode method_3_code 18 = .ok (.ireturn, 1) := by decide +kernel
theorem lw_help {Y : am_Y} {x o : Nat} {a b F : Int} {h : am_H} {B : Prop} {K Xq : am_H → Prop} (hY : am_at Y x am_L11) (hO : Y[o]? = some (15, 1)) (hM : an_XM am_Nh_help 50 Y [.inr (.inr x), .inl a, .inl b] h (fun r h1 => B ∧ r = some (.inl F) ∧ K h1) Xq) : an_LM am_Lw_help [(0, 10, 13, 13)] 55 Y [.inr (.inr x), .inl a, .inl b, .inr (.inr o)] h (an_lq o B F K Xq) := by
  refine an_LM.of (by decide) rfl (Nat.le_of_ble_eq_true rfl) fun p l e s m args below meth c G A hl hZ hT => ?_
  refine an_aload_n (pc := 0) ad_Lw_help_0 rfl ?_
  refine an_iconst (pc := 1) ad_Lw_help_1 ⟨by decide, by decide⟩ ?_
  refine an_aload_n (pc := 2) ad_Lw_help_2 rfl ?_
  refine an_iload_n (pc := 3) ad_Lw_help_3 rfl ?_
  refine an_iload_n (pc := 4) ad_Lw_help_4 rfl ?_
  refine an_callXC (pc := 5) (As := [.inl a, .inl b]) (st := [.inl 0, .inr (.inr o)]) (d' := 50) (ct := 13) hl hZ ad_Lw_help_5 am_Nh_help_w am_ml_Law_7 (Nat.le_of_ble_eq_true rfl) (Nat.le_of_ble_eq_true rfl) (Nat.le_refl _) (Nat.le_refl _) rfl rfl (Nat.le_of_ble_eq_true rfl) am_c11 (hY 0 _ rfl) hM hT (by decide) (by decide) an_lk rfl ad_Lw_help_13 rfl rfl ?_ ?_
  · rintro rv h1 ⟨b, rfl, k⟩
    refine an_i2l (pc := 8) ad_Lw_help_8 ?_
    refine an_last (pc := 9) ad_Lw_help_9 hO (by decide) ?_
    refine an_goto (pc := 10) (tgt := 17) ad_Lw_help_10 (by decide) ?_
    refine an_iconst (pc := 17) ad_Lw_help_17 ⟨by decide, by decide⟩ ?_
    exact an_iret (pc := 18) ad_Lw_help_18 rfl (Nat.le_refl _) (Nat.le_refl _) (Or.inl ⟨rfl, b, h1, k, rfl⟩)
  · intro h1 k
    refine an_iconst (pc := 15) ad_Lw_help_15 ⟨by decide, by decide⟩ ?_
    exact an_iret (pc := 16) ad_Lw_help_16 rfl (Nat.le_refl _) (Nat.le_refl _) (Or.inr ⟨rfl, k⟩)
def am_Lw_person : am_M := (⟨"NightHelpLaw", "person", "(LNightHelp;II[J)I"⟩, method_4_code, 5, (some .int))
theorem ad_Lw_person_0 : decode method_4_code 0 = .ok (.aload_n 3, 1) := by decide +kernel
theorem ad_Lw_person_1 : decode method_4_code 1 = .ok (.iconst 0, 1) := by decide +kernel
theorem ad_Lw_person_2 : decode method_4_code 2 = .ok (.aload_n 0, 1) := by decide +kernel
theorem ad_Lw_person_3 : decode method_4_code 3 = .ok (.iload_n 1, 1) := by decide +kernel
theorem ad_Lw_person_4 : decode method_4_code 4 = .ok (.iload_n 2, 1) := by decide +kernel
theorem ad_Lw_person_5 : decode method_4_code 5 = .ok (.invokevirtual 15, 3) := by decide +kernel
theorem ad_Lw_person_8 : decode method_4_code 8 = .ok (.i2l, 1) := by decide +kernel
theorem ad_Lw_person_9 : decode method_4_code 9 = .ok (.lastore, 1) := by decide +kernel
theorem ad_Lw_person_10 : decode method_4_code 10 = .ok (.goto 7, 3) := by decide +kernel
theorem ad_Lw_person_13 : decode method_4_code 13 = .ok (.astore 4, 2) := by decide +kernel
theorem ad_Lw_person_15 : decode method_4_code 15 = .ok (.iconst 1, 1) := by decide +kernel
theorem ad_Lw_person_16 : decode method_4_code 16 = .ok (.ireturn, 1) := by decide +kernel
theorem ad_Lw_person_17 : decode method_4_code 17 = .ok (.iconst 0, 1) := by decide +kernel
theorem ad_Lw_person_18 : decode method_4_code 18 = .ok (.ireturn, 1) := by decide +kernel
theorem lw_person {Y : am_Y} {x o : Nat} {a b F : Int} {h : am_H} {B : Prop} {K Xq : am_H → Prop} (hY : am_at Y x am_L11) (hO : Y[o]? = some (15, 1)) (hM : an_XM am_Nh_person 50 Y [.inr (.inr x), .inl a, .inl b] h (fun r h1 => B ∧ r = some (.inl F) ∧ K h1) Xq) : an_LM am_Lw_person [(0, 10, 13, 13)] 55 Y [.inr (.inr x), .inl a, .inl b, .inr (.inr o)] h (an_lq o B F K Xq) := by
  refine an_LM.of (by decide) rfl (Nat.le_of_ble_eq_true rfl) fun p l e s m args below meth c G A hl hZ hT => ?_
  refine an_aload_n (pc := 0) ad_Lw_person_0 rfl ?_
  refine an_iconst (pc := 1) ad_Lw_person_1 ⟨by decide, by decide⟩ ?_
  refine an_aload_n (pc := 2) ad_Lw_person_2 rfl ?_
  refine an_iload_n (pc := 3) ad_Lw_person_3 rfl ?_
  refine an_iload_n (pc := 4) ad_Lw_person_4 rfl ?_
  refine an_callXC (pc := 5) (As := [.inl a, .inl b]) (st := [.inl 0, .inr (.inr o)]) (d' := 50) (ct := 13) hl hZ ad_Lw_person_5 am_Nh_person_w am_ml_Law_15 (Nat.le_of_ble_eq_true rfl) (Nat.le_of_ble_eq_true rfl) (Nat.le_refl _) (Nat.le_refl _) rfl rfl (Nat.le_of_ble_eq_true rfl) am_c11 (hY 0 _ rfl) hM hT (by decide) (by decide) an_lk rfl ad_Lw_person_13 rfl rfl ?_ ?_
  · rintro rv h1 ⟨b, rfl, k⟩
    refine an_i2l (pc := 8) ad_Lw_person_8 ?_
    refine an_last (pc := 9) ad_Lw_person_9 hO (by decide) ?_
    refine an_goto (pc := 10) (tgt := 17) ad_Lw_person_10 (by decide) ?_
    refine an_iconst (pc := 17) ad_Lw_person_17 ⟨by decide, by decide⟩ ?_
    exact an_iret (pc := 18) ad_Lw_person_18 rfl (Nat.le_refl _) (Nat.le_refl _) (Or.inl ⟨rfl, b, h1, k, rfl⟩)
  · intro h1 k
    refine an_iconst (pc := 15) ad_Lw_person_15 ⟨by decide, by decide⟩ ?_
    exact an_iret (pc := 16) ad_Lw_person_16 rfl (Nat.le_refl _) (Nat.le_refl _) (Or.inr ⟨rfl, k⟩)
def am_Lw_came : am_M := (⟨"NightHelpLaw", "came", "(LNightHelp;II[J)I"⟩, method_5_code, 5, (some .int))
theorem ad_Lw_came_0 : decode method_5_code 0 = .ok (.aload_n 3, 1) := by decide +kernel
theorem ad_Lw_came_1 : decode method_5_code 1 = .ok (.iconst 0, 1) := by decide +kernel
theorem ad_Lw_came_2 : decode method_5_code 2 = .ok (.aload_n 0, 1) := by decide +kernel
theorem ad_Lw_came_3 : decode method_5_code 3 = .ok (.iload_n 1, 1) := by decide +kernel
theorem ad_Lw_came_4 : decode method_5_code 4 = .ok (.iload_n 2, 1) := by decide +kernel
theorem ad_Lw_came_5 : decode method_5_code 5 = .ok (.invokevirtual 18, 3) := by decide +kernel
theorem ad_Lw_came_8 : decode method_5_code 8 = .ok (.i2l, 1) := by decide +kernel
theorem ad_Lw_came_9 : decode method_5_code 9 = .ok (.lastore, 1) := by decide +kernel
theorem ad_Lw_came_10 : decode method_5_code 10 = .ok (.goto 7, 3) := by decide +kernel
theorem ad_Lw_came_13 : decode method_5_code 13 = .ok (.astore 4, 2) := by decide +kernel
theorem ad_Lw_came_15 : decode method_5_code 15 = .ok (.iconst 1, 1) := by decide +kernel
theorem ad_Lw_came_16 : decode method_5_code 16 = .ok (.ireturn, 1) := by decide +kernel
theorem ad_Lw_came_17 : decode method_5_code 17 = .ok (.iconst 0, 1) := by decide +kernel
theorem ad_Lw_came_18 : decode method_5_code 18 = .ok (.ireturn, 1) := by decide +kernel
theorem lw_came {Y : am_Y} {x o : Nat} {a b F : Int} {h : am_H} {B : Prop} {K Xq : am_H → Prop} (hY : am_at Y x am_L11) (hO : Y[o]? = some (15, 1)) (hM : an_XM am_Nh_came 50 Y [.inr (.inr x), .inl a, .inl b] h (fun r h1 => B ∧ r = some (.inl F) ∧ K h1) Xq) : an_LM am_Lw_came [(0, 10, 13, 13)] 55 Y [.inr (.inr x), .inl a, .inl b, .inr (.inr o)] h (an_lq o B F K Xq) := by
  refine an_LM.of (by decide) rfl (Nat.le_of_ble_eq_true rfl) fun p l e s m args below meth c G A hl hZ hT => ?_
  refine an_aload_n (pc := 0) ad_Lw_came_0 rfl ?_
  refine an_iconst (pc := 1) ad_Lw_came_1 ⟨by decide, by decide⟩ ?_
  refine an_aload_n (pc := 2) ad_Lw_came_2 rfl ?_
  refine an_iload_n (pc := 3) ad_Lw_came_3 rfl ?_
  refine an_iload_n (pc := 4) ad_Lw_came_4 rfl ?_
  refine an_callXC (pc := 5) (As := [.inl a, .inl b]) (st := [.inl 0, .inr (.inr o)]) (d' := 50) (ct := 13) hl hZ ad_Lw_came_5 am_Nh_came_w am_ml_Law_18 (Nat.le_of_ble_eq_true rfl) (Nat.le_of_ble_eq_true rfl) (Nat.le_refl _) (Nat.le_refl _) rfl rfl (Nat.le_of_ble_eq_true rfl) am_c11 (hY 0 _ rfl) hM hT (by decide) (by decide) an_lk rfl ad_Lw_came_13 rfl rfl ?_ ?_
  · rintro rv h1 ⟨b, rfl, k⟩
    refine an_i2l (pc := 8) ad_Lw_came_8 ?_
    refine an_last (pc := 9) ad_Lw_came_9 hO (by decide) ?_
    refine an_goto (pc := 10) (tgt := 17) ad_Lw_came_10 (by decide) ?_
    refine an_iconst (pc := 17) ad_Lw_came_17 ⟨by decide, by decide⟩ ?_
    exact an_iret (pc := 18) ad_Lw_came_18 rfl (Nat.le_refl _) (Nat.le_refl _) (Or.inl ⟨rfl, b, h1, k, rfl⟩)
  · intro h1 k
    refine an_iconst (pc := 15) ad_Lw_came_15 ⟨by decide, by decide⟩ ?_
    exact an_iret (pc := 16) ad_Lw_came_16 rfl (Nat.le_refl _) (Nat.le_refl _) (Or.inr ⟨rfl, k⟩)
def am_Lw_best : am_M := (⟨"NightHelpLaw", "best", "(LNightHelp;IIIII[J)I"⟩, method_6_code, 8, (some .int))
theorem ad_Lw_best_0 : decode method_6_code 0 = .ok (.aload 6, 2) := by decide +kernel
theorem ad_Lw_best_2 : decode method_6_code 2 = .ok (.iconst 0, 1) := by decide +kernel
theorem ad_Lw_best_3 : decode method_6_code 3 = .ok (.aload_n 0, 1) := by decide +kernel
theorem ad_Lw_best_4 : decode method_6_code 4 = .ok (.iload_n 1, 1) := by decide +kernel
theorem ad_Lw_best_5 : decode method_6_code 5 = .ok (.iload_n 2, 1) := by decide +kernel
theorem ad_Lw_best_6 : decode method_6_code 6 = .ok (.iload_n 3, 1) := by decide +kernel
theorem ad_Lw_best_7 : decode method_6_code 7 = .ok (.iload 4, 2) := by decide +kernel
theorem ad_Lw_best_9 : decode method_6_code 9 = .ok (.iload 5, 2) := by decide +kernel
theorem ad_Lw_best_11 : decode method_6_code 11 = .ok (.invokevirtual 21, 3) := by decide +kernel
theorem ad_Lw_best_14 : decode method_6_code 14 = .ok (.lastore, 1) := by decide +kernel
theorem ad_Lw_best_15 : decode method_6_code 15 = .ok (.goto 7, 3) := by decide +kernel
theorem ad_Lw_best_18 : decode method_6_code 18 = .ok (.astore 7, 2) := by decide +kernel
theorem ad_Lw_best_20 : decode method_6_code 20 = .ok (.iconst 1, 1) := by decide +kernel
theorem ad_Lw_best_21 : decode method_6_code 21 = .ok (.ireturn, 1) := by decide +kernel
theorem ad_Lw_best_22 : decode method_6_code 22 = .ok (.iconst 0, 1) := by decide +kernel
theorem ad_Lw_best_23 : decode method_6_code 23 = .ok (.ireturn, 1) := by decide +kernel
theorem lw_best {Y : am_Y} {x o : Nat} {a b i j n F : Int} {h : am_H} {B : Prop} {K Xq : am_H → Prop} (hY : am_at Y x am_L11) (hO : Y[o]? = some (15, 1)) (hM : an_XM am_Nh_best 50 Y [.inr (.inr x), .inl a, .inl b, .inl i, .inl j, .inl n] h (fun r h1 => B ∧ r = some (.inr (.inl F)) ∧ K h1) Xq) : an_LM am_Lw_best [(0, 15, 18, 13)] 55 Y [.inr (.inr x), .inl a, .inl b, .inl i, .inl j, .inl n, .inr (.inr o)] h (an_lq o B F K Xq) := by
  refine an_LM.of (by decide) rfl (Nat.le_of_ble_eq_true rfl) fun p l e s m args below meth c G A hl hZ hT => ?_
  refine an_aload (pc := 0) ad_Lw_best_0 rfl ?_
  refine an_iconst (pc := 2) ad_Lw_best_2 ⟨by decide, by decide⟩ ?_
  refine an_aload_n (pc := 3) ad_Lw_best_3 rfl ?_
  refine an_iload_n (pc := 4) ad_Lw_best_4 rfl ?_
  refine an_iload_n (pc := 5) ad_Lw_best_5 rfl ?_
  refine an_iload_n (pc := 6) ad_Lw_best_6 rfl ?_
  refine an_iload (pc := 7) ad_Lw_best_7 rfl ?_
  refine an_iload (pc := 9) ad_Lw_best_9 rfl ?_
  refine an_callXC (pc := 11) (As := [.inl a, .inl b, .inl i, .inl j, .inl n]) (st := [.inl 0, .inr (.inr o)]) (d' := 50) (ct := 18) hl hZ ad_Lw_best_11 am_Nh_best_w am_ml_Law_21 (Nat.le_of_ble_eq_true rfl) (Nat.le_of_ble_eq_true rfl) (Nat.le_refl _) (Nat.le_refl _) rfl rfl (Nat.le_of_ble_eq_true rfl) am_c11 (hY 0 _ rfl) hM hT (by decide) (by decide) an_lk rfl ad_Lw_best_18 rfl rfl ?_ ?_
  · rintro rv h1 ⟨b, rfl, k⟩
    refine an_last (pc := 14) ad_Lw_best_14 hO (by decide) ?_
    refine an_goto (pc := 15) (tgt := 22) ad_Lw_best_15 (by decide) ?_
    refine an_iconst (pc := 22) ad_Lw_best_22 ⟨by decide, by decide⟩ ?_
    exact an_iret (pc := 23) ad_Lw_best_23 rfl (Nat.le_refl _) (Nat.le_refl _) (Or.inl ⟨rfl, b, h1, k, rfl⟩)
  · intro h1 k
    refine an_iconst (pc := 20) ad_Lw_best_20 ⟨by decide, by decide⟩ ?_
    exact an_iret (pc := 21) ad_Lw_best_21 rfl (Nat.le_refl _) (Nat.le_refl _) (Or.inr ⟨rfl, k⟩)
