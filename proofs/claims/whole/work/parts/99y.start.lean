/-! THE CLAIM OUT OF ONE WALK OF THE LAW'S BODY. Your part is whole_start (and what it stands on); all else here is the same for every law, but numbers. -/
def R_law : String := "NightHelpLaw"
def lw_P (b : Addr) (xs : List Int32) (args : Array Value) (s : State) : Prop := args = #[.ref b] ∧ s.IntsAt b xs ∧ xs.length ≤ 3072 ∧ (Jvm.Cond.and given_1 narrow_1).before args s = true
def lw_Q (_ : Array Value) (s : State) (o : Outcome) (t : State) : Prop := o = .returned (some (.int 1)) ∧ Framed s o t [] 601024 7293034
def lw_Z (below : List Frame) (a : Array Value) (s : State) : State → Prop := fun t => ∃ o, t.status = .running ∧ Ended t below o ∧ lw_Q a s o t
/-- the law's own end, with 1 on the stack, nothing written that was there before, its room as the claim has it -/
theorem lw_ret {p : Program} {l : Launch} {e : Env} {s : State} {m : MethodId} {below : List Frame} {meth : Method} {c : Code} {b : Nat} (hx : p.tables.exec = Jvm.exec) (hb : c.code = code) (hr : meth.sig.returnType = ret) (hlocks : meth.locks = false) {pc : Nat} {H : Heap} {ls : Array Slot} (hdg : decode code pc = .ok (.ireturn, 1)) : W p l e room_1 s m #[Value.ref b] below meth c H [] 601024 7293034 (lw_Z below #[Value.ref b] s) (F0 m pc ls [.int 1]) := by
  intro T hT X
  obtain ⟨fs, hret, hrun, hended, hW, hframe⟩ := X.leave (v := some (.int 1)) (hlocks := hlocks) (fun h => by rw [hr] at h; cases h)
  have hmeth' : T.vm.method? m = some meth := X.method'
  refine ⟨T.setFrames fs, ?_, .returned (some (.int 1)), hrun, hended, rfl, ⟨_, rfl⟩, hW, hframe⟩
  jvm_step X.here [X.here.top, hx, hb, hdg, hmeth', hr, ret, narrow_b1]
  (try refine ⟨rfl, ?_⟩); (try refine ⟨rfl, ?_⟩)
  first | (intro acts; rw [hret _ acts rfl rfl rfl]) | rw [hret _ _ rfl rfl rfl]
  exact Steps.refl _
/-- what holds at the law's entry: the machine, the code, the tables' words (any of lw_tbl by 'hts w (by decide +kernel)'), the script of L ints xs at the cell b, what the Statement gives of the start (any of its parts by flat_of_before) -/
def lw_At (p : Program) (s : State) (m : MethodId) (meth : Method) (c : Code) (b L : Nat) (xs : Nat → Int32) : Prop :=
  p.tables.exec = Jvm.exec ∧ c.code = code ∧ meth.sig.returnType = ret ∧ c.maxLocals = 8 ∧ s.vm.findClass R_law = some m.cls ∧ (∀ w ∈ lw_tbl, w.before #[Value.ref b] s = true) ∧ va_X b L xs s s.heap ∧ b < s.heap.size ∧ meth.locks = false ∧ (Jvm.Cond.and given_1 narrow_1).before #[Value.ref b] s = true

/-! where the law begins -/
def am_Lw_law : am_M := (⟨"NightHelpLaw", "law", "([I)Z"⟩, code, 8, ret)
section
variable {h : am_H} {x m : Nat}
theorem lai_0 (z0 : h m = fun _ => 0) (z2 : h (m + 2) = fun _ => 0) : lai h m = an_R0 := by
  unfold lai
  rw [z0, if_pos rfl, z2]
  rfl
theorem an_R0i {i : Nat} (h3 : i ≠ 3) (h4 : i ≠ 4) (h5 : i ≠ 5) : an_R0 i = 0 := by
  unfold an_R0 up
  rw [if_neg h5, if_neg h4, if_neg h3]
theorem stR_0 {o : Nat} {Nm : Nat → Int} (z : zSt h o) : stR h o an_R0 Nm := by
  obtain ⟨z1, ⟨v1, v2, v3⟩, ⟨b1, b2⟩, r1, r2⟩ := z
  refine ⟨⟨⟨v1 1 (by omega), v1 2 (by omega), v1 3 (by omega), v1 4 (by omega), v1 5 (by omega), v1 6 (by omega)⟩, fun k hk => ?_, fun p hp => ?_, fun i hi => ?_, fun i hi => ?_, fun n hn => ?_, ⟨fun p k _ _ _ => an_R0i (by omega) (by omega) (by omega), fun p q _ _ _ => ⟨an_R0i (by omega) (by omega) (by omega), an_R0i (by omega) (by omega) (by omega)⟩⟩, fun k p hk _ => ?_⟩, an_R0w, ⟨by decide, by decide, fun i hi => ?_⟩, bk_none (b1 jZ) an_R0w b2 (lnA an_R0), fun p hp => ?_, Or.inl ⟨by decide, by rw [z1]⟩⟩
  · have e : an_R0 0 = 0 := rfl
    omega
  · have e : an_R0 1 = 0 := rfl
    omega
  · rw [v2 i hi, an_R0i (by omega) (by omega) (by omega)]
  · rw [(v3 i hi).1, (v3 i hi).2, an_R0i (by omega) (by omega) (by omega), an_R0i (by omega) (by omega) (by omega)]
    exact ⟨rfl, rfl⟩
  · have e : an_R0 2 = 0 := rfl
    omega
  · have e : an_R0 0 = 0 := rfl
    omega
  · have e : an_R0 341 = 0 := rfl
    omega
  · rw [r1, r2, an_R0i (by omega) (by omega) (by omega), an_R0i (by omega) (by omega) (by omega)]
    exact ⟨rfl, rfl⟩
/-- two new objects stand beside each other -/
theorem RL_0 (z : zNh h x) (z0 : h m = fun _ => 0) (z2 : h (m + 2) = fun _ => 0) (z9 : h (m + 9) = fun _ => 0) : RL h x m := by
  obtain ⟨x0, xs, x27, x51, x114, x138⟩ := z
  refine ⟨?_, ?_, ?_, ?_, ?_, ?_⟩
  · unfold tpR
    rw [x0, z0]
    dsimp only
    exact ⟨rfl, ⟨by omega, by omega⟩, fun i hi => by simp at hi, rfl⟩
  · rw [lai_0 z0 z2]
    exact stR_0 xs
  · intro k hk
    have e : h (x + 27 + 24 * k) 6 = 0 := by
      rcases (show k = 0 ∨ k = 1 by omega) with rfl | rfl
      · rw [show x + 27 + 24 * 0 = x + 27 from by omega, x27]
      · rw [show x + 27 + 24 * 1 = x + 51 from by omega, x51]
    rw [e, z9]
    exact ⟨rfl, fun w => absurd rfl w⟩
  · unfold rnR
    rw [x114, z0]
    dsimp only
    exact ⟨⟨rfl, rfl, fun _ => rfl, by omega, by omega⟩, fun w => absurd rfl w, fun p hp => by omega⟩
  · unfold lfR
    rw [x138, z0]
    dsimp only
    exact ⟨⟨rfl, by omega, by omega⟩, fun p hp => by omega⟩
  · unfold thR
    rw [x0, z0]
    dsimp only
    exact ⟨⟨rfl, rfl, by omega, by omega⟩, fun p hp => by omega⟩
end
theorem an_bte : am_bt = [104, 101, 108, 112, 32, 112, 101, 114, 115, 111, 110, 32, 99, 97, 110, 32, 110, 101, 101, 100, 115, 32, 102, 114, 105, 101, 110, 100, 32, 115, 101, 101, 115, 32, 98, 105, 110, 100, 115, 32, 111, 117, 116, 32, 103, 105, 102, 116, 32, 121, 101, 97, 114, 32, 104, 101, 108, 112, 115, 32, 104, 105, 100, 100, 101, 110, 32, 116, 104, 97, 110, 107, 115, 32, 108, 101, 97, 118, 101, 115, 32, 111, 114, 32, 97, 110, 100, 32, 110, 111, 116, 32, 98, 111, 117, 110, 100, 32, 102, 114, 101, 101, 32, 103, 97, 105, 110, 101, 100, 32, 102, 101, 108, 116, 32, 104, 101, 108, 112, 101, 100, 32, 98, 111, 110, 100, 115, 32, 98, 114, 111, 107, 101, 110, 32] := by decide +kernel
theorem an_cmN : ∀ w ∈ flatC (Jvm.Cond.and given_1 narrow_1), True := fun _ _ => trivial
theorem an_cm1 : (Cond.exactly (.string "NightHelp$Tokens" 86) "java/lang/String") ∈ flatC (Jvm.Cond.and given_1 narrow_1) ∧ (Cond.eq (.field (.string "NightHelp$Tokens" 86) "java/lang/String" "coder" "B") (.int 0)) ∈ flatC (Jvm.Cond.and given_1 narrow_1) ∧ (Cond.arrayOf (.field (.string "NightHelp$Tokens" 86) "java/lang/String" "value" "[B") .byte) ∈ flatC (Jvm.Cond.and given_1 narrow_1) ∧ (Cond.eq (.length (.field (.string "NightHelp$Tokens" 86) "java/lang/String" "value" "[B")) (.int (Int32.ofNat 135))) ∈ flatC (Jvm.Cond.and given_1 narrow_1) := by decide +kernel
theorem an_cm2 : (Cond.eq (.static "java/lang/String" "COMPACT_STRINGS" "Z") (.int 1)) ∈ flatC (Jvm.Cond.and given_1 narrow_1) ∧ (Cond.isRef (.static "jdk/internal/util/Preconditions" "SIOOBE_FORMATTER" "Ljava/util/function/BiFunction;")) ∈ flatC (Jvm.Cond.and given_1 narrow_1) ∧ (Cond.isRef (.static Bundle.tN "UNASSIGNED_STACK" Bundle.steD)) ∈ flatC (Jvm.Cond.and given_1 narrow_1) ∧ (Cond.isRef (.static Bundle.tN "SUPPRESSED_SENTINEL" Bundle.listD)) ∈ flatC (Jvm.Cond.and given_1 narrow_1) := by decide +kernel
theorem an_cmE : ∀ j : Nat, j < 135 → (Cond.eq (.elem (.field (.string "NightHelp$Tokens" 86) "java/lang/String" "value" "[B") (.int (Int32.ofNat j))) (.int ([104, 101, 108, 112, 32, 112, 101, 114, 115, 111, 110, 32, 99, 97, 110, 32, 110, 101, 101, 100, 115, 32, 102, 114, 105, 101, 110, 100, 32, 115, 101, 101, 115, 32, 98, 105, 110, 100, 115, 32, 111, 117, 116, 32, 103, 105, 102, 116, 32, 121, 101, 97, 114, 32, 104, 101, 108, 112, 115, 32, 104, 105, 100, 100, 101, 110, 32, 116, 104, 97, 110, 107, 115, 32, 108, 101, 97, 118, 101, 115, 32, 111, 114, 32, 97, 110, 100, 32, 110, 111, 116, 32, 98, 111, 117, 110, 100, 32, 102, 114, 101, 101, 32, 103, 97, 105, 110, 101, 100, 32, 102, 101, 108, 116, 32, 104, 101, 108, 112, 101, 100, 32, 98, 111, 110, 100, 115, 32, 98, 114, 111, 107, 101, 110, 32].getD j 0))) ∈ flatC (Jvm.Cond.and given_1 narrow_1) := by decide +kernel
theorem an_wnm : ∀ w ∈ am_wn, w ∈ tables_1 := by decide +kernel
theorem an_wnm2 : ∀ w ∈ an_wn, w ∈ tables_1 := by decide +kernel
theorem an_wnm3 : ∀ w ∈ an_wx, w ∈ tables_1 := by decide +kernel
set_option maxRecDepth 20000 in
theorem lw_start {p : Program} {s : State} {m : MethodId} {meth : Method} {c : Code} {b L : Nat} {xs : Nat → Int32} (C0 : lw_At p s m meth c b L xs) : ∃ (D : va_G) (ka : Nat → ClassId) (sa : Nat × Nat), (∀ ad, am_X am_Lw_law p s m #[Value.ref b] meth c (D, ad, ka, sa) (fun q => s.heap.size ≤ q)) ∧ an_O s ∧ an_ZZ (fun q => s.heap.size ≤ q) s s.heap := by
  obtain ⟨hx, hb, hr, hml, hown, hts, hX, hbl, hlocks, hgv⟩ := C0
  have hA : ∀ a : Nat, a < s.heap.size → ¬ (fun q : Nat => s.heap.size ≤ q) a := fun a h => Nat.not_le.mpr h
  have ht : ∀ w ∈ tables_1, w.before #[Value.ref b] s = true := fun w hw => hts w (List.mem_append_right _ hw)
  have ha : ∀ w ∈ am_ws, w.before #[Value.ref b] s = true := fun w hw => hts w (List.mem_filter.mp hw).1
  have hs := flat_of_before _ hgv
  obtain ⟨c0, i0, hk0⟩ := u_known (C := am_R0) (T := am_T0) (N := 5) (n := 5) ha am_uw0 (ht _ (List.mem_of_getElem? (i := 420) (by decide +kernel)))
  obtain ⟨c1, i1, hk1⟩ := u_known (C := am_R1) (T := am_T1) (N := 3) (n := 3) ha am_uw1 (ht _ (List.mem_of_getElem? (i := 166) (by decide +kernel)))
  obtain ⟨c2, i2, hk2⟩ := u_known (C := am_R2) (T := am_T2) (N := 10) (n := 10) ha am_uw2 (ht _ (List.mem_of_getElem? (i := 160) (by decide +kernel)))
  obtain ⟨c3, i3, hk3⟩ := u_known (C := am_R3) (T := am_T3) (N := 8) (n := 8) ha am_uw3 (ht _ (List.mem_of_getElem? (i := 350) (by decide +kernel)))
  obtain ⟨c4, i4, hk4⟩ := u_known (C := am_R4) (T := am_T4) (N := 11) (n := 11) ha am_uw4 (ht _ (List.mem_of_getElem? (i := 495) (by decide +kernel)))
  obtain ⟨c5, i5, hk5⟩ := u_known (C := am_R5) (T := am_T5) (N := 12) (n := 12) ha am_uw5 (ht _ (List.mem_of_getElem? (i := 443) (by decide +kernel)))
  obtain ⟨c6, i6, hk6⟩ := u_known (C := am_R6) (T := am_T6) (N := 7) (n := 7) ha am_uw6 (ht _ (List.mem_of_getElem? (i := 387) (by decide +kernel)))
  obtain ⟨c7, i7, hk7⟩ := u_known (C := am_R7) (T := am_T7) (N := 7) (n := 7) ha am_uw7 (ht _ (List.mem_of_getElem? (i := 34) (by decide +kernel)))
  obtain ⟨c8, i8, hk8⟩ := u_known (C := am_R8) (T := am_T8) (N := 12) (n := 12) ha am_uw8 (ht _ (List.mem_of_getElem? (i := 275) (by decide +kernel)))
  obtain ⟨c9, i9, hk9⟩ := u_known (C := am_R9) (T := am_T9) (N := 17) (n := 17) ha am_uw9 (ht _ (List.mem_of_getElem? (i := 40) (by decide +kernel)))
  obtain ⟨c10, i10, hk10⟩ := u_known (C := am_R10) (T := am_T10) (N := 5) (n := 5) ha am_uw10 (ht _ (List.mem_of_getElem? (i := 269) (by decide +kernel)))
  obtain ⟨c11, i11, hk11⟩ := u_known (C := am_R11) (T := am_T11) (N := 15) (n := 15) ha am_uw11 (ht _ (List.mem_of_getElem? (i := 26) (by decide +kernel)))
  obtain ⟨c12, i12, hk12⟩ := u_known (C := am_R12) (T := am_T12) (N := 65) (n := 65) ha am_uw12 (ht _ (List.mem_of_getElem? (i := 1372) (by decide +kernel)))
  obtain ⟨D, hD⟩ : ∃ D : va_G, ∀ (k : Nat) (q : vw_C), am_cl[k]? = some q → u_Kn s q.1 q.2.1 q.2.2 (D.1 k) (D.2 k) := by
    refine ⟨(fun k => match k with | 0 => c0 | 1 => c1 | 2 => c2 | 3 => c3 | 4 => c4 | 5 => c5 | 6 => c6 | 7 => c7 | 8 => c8 | 9 => c9 | 10 => c10 | 11 => c11 | _ => c12, fun k => match k with | 0 => i0 | 1 => i1 | 2 => i2 | 3 => i3 | 4 => i4 | 5 => i5 | 6 => i6 | 7 => i7 | 8 => i8 | 9 => i9 | 10 => i10 | 11 => i11 | _ => i12), fun k q hq => ?_⟩
    match k, hq with
    | 0, hq => cases hq; exact hk0
    | 1, hq => cases hq; exact hk1
    | 2, hq => cases hq; exact hk2
    | 3, hq => cases hq; exact hk3
    | 4, hq => cases hq; exact hk4
    | 5, hq => cases hq; exact hk5
    | 6, hq => cases hq; exact hk6
    | 7, hq => cases hq; exact hk7
    | 8, hq => cases hq; exact hk8
    | 9, hq => cases hq; exact hk9
    | 10, hq => cases hq; exact hk10
    | 11, hq => cases hq; exact hk11
    | 12, hq => cases hq; exact hk12
    | k + 13, hq => simp [am_cl] at hq
  obtain ⟨a13, k13, p13, x13, y13, z13⟩ := Cond.arrayClass_spec (args := #[Value.ref b]) (first := s) (o := none) (s := s) (idx := []) (ha _ am_ab)
  obtain ⟨a14, k14, p14, x14, y14, z14⟩ := Cond.arrayClass_spec (args := #[Value.ref b]) (first := s) (o := none) (s := s) (idx := []) (ha _ am_ai)
  obtain ⟨a15, k15, p15, x15, y15, z15⟩ := Cond.arrayClass_spec (args := #[Value.ref b]) (first := s) (o := none) (s := s) (idx := []) (ha _ am_aj)
  obtain ⟨a16, k16, p16, x16, y16, z16⟩ := Cond.arrayClass_spec (args := #[Value.ref b]) (first := s) (o := none) (s := s) (idx := []) (ha _ am_az)
  have hAO : va_AO "NightHelp$State" s := va_AO.of (ht _ (List.mem_of_getElem? (i := 267) (by decide +kernel)))
  obtain ⟨p17, a17, k17, x17, -, y17, z17, w17⟩ := Cond.arrayOver_spec (args := #[]) (first := s) (o := none) (idx := []) hAO
  obtain ⟨ka, hka⟩ : ∃ ka : Nat → ClassId, ka 13 = a13 ∧ ka 14 = a14 ∧ ka 15 = a15 ∧ ka 16 = a16 ∧ ka 17 = a17 := ⟨fun K => match K with | 13 => a13 | 14 => a14 | 15 => a15 | 16 => a16 | _ => a17, rfl, rfl, rfl, rfl, rfl⟩
  obtain ⟨e13, e14, e15, e16, e17⟩ := hka
  have hK : va_K D am_cl (am_tys ka) s := by
    refine ⟨hD, fun k q hq => ?_⟩
    match k, hq with
    | 0, hq => cases hq; rw [e13]; exact ⟨fun n z => ⟨fun k h => (by cases h), k13, y13, p13, z13⟩, x13⟩
    | 1, hq => cases hq; rw [e14]; exact ⟨fun n z => ⟨fun k h => (by cases h), k14, y14, p14, z14⟩, x14⟩
    | 2, hq => cases hq; rw [e15]; exact ⟨fun n z => ⟨fun k h => (by cases h), k15, y15, p15, z15⟩, x15⟩
    | 3, hq => cases hq; rw [e16]; exact ⟨fun n z => ⟨fun k h => (by cases h), k16, y16, p16, z16⟩, x16⟩
    | 4, hq => cases hq; rw [e17]; exact ⟨fun n z => ⟨fun k h => (by cases h), k17, y17, p17, z17⟩, k17, p17, y17, z17, x17, w17⟩
    | k + 5, hq => simp [am_tys] at hq
  have hn : ∀ w ∈ am_wn, va_Nw w s := fun w hw => by
    have h1 := ht w (an_wnm w hw)
    simp only [am_wn, List.mem_cons, List.not_mem_nil, or_false] at hw
    rcases hw with rfl | rfl | rfl | rfl | rfl <;> exact va_Nw.of rfl h1
  have hn2 : ∀ w ∈ an_wn, va_Nw w s := fun w hw => by
    have h1 := ht w (an_wnm2 w hw)
    simp only [an_wn, List.mem_cons, List.not_mem_nil, or_false] at hw
    rcases hw with rfl | rfl | rfl | rfl | rfl | rfl | rfl | rfl | rfl | rfl | rfl <;> exact va_Nw.of rfl h1
  have hn3 : ∀ w ∈ an_wx, va_Nw w s := fun w hw => va_Nw.of (an_wx.tab w hw).1 (ht w (an_wnm3 w hw))
  obtain ⟨adK, adV, hS, hT⟩ := vk_Sof (args := #[Value.ref b]) (s := s) (N := 1) (tm := fun _ => .string "NightHelp$Tokens" 86) (len := [135]) (byt := [am_bt]) (A := fun q => s.heap.size ≤ q)
    (fun i hi => by obtain rfl : i = 0 := by omega
                    decide)
    (fun i hi => hs _ an_cm1.1) (fun i hi => hs _ an_cm1.2.1) (fun i hi => hs _ an_cm1.2.2.1)
    (fun i hi => by obtain rfl : i = 0 := by omega
                    exact hs _ an_cm1.2.2.2)
    (fun i hi j hj => by
      obtain rfl : i = 0 := by omega
      rw [show ([am_bt] : List (List Int32)).getD 0 [] = am_bt from rfl, an_bte]
      exact hs _ (an_cmE j hj))
    (fun i j hi hj hij => absurd (show i = j by omega) hij) hA
  have hR : vk_R "NightHelp$Tokens" 86 am_tx (adK 0) s := vk_R.of (ht _ (List.mem_of_getElem? (i := 629) (by decide +kernel))) (hT 0 (by omega))
  have hstr : am_str (adK 0, adV 0) (fun q => s.heap.size ≤ q) s s.heap := by
    refine ⟨hR, ?_, va_Zof (ht _ (List.mem_of_getElem? (i := 639) (by decide +kernel))) (ht _ (List.mem_of_getElem? (i := 16) (by decide +kernel))) (va_eqt (hs _ an_cm2.1)) hA, va_Zqof (ht _ (List.mem_of_getElem? (i := 655) (by decide +kernel))) (ht _ (List.mem_of_getElem? (i := 18) (by decide +kernel))) (hs _ an_cm2.2.1) hA⟩
    refine ⟨fun i hi => ?_, fun i j hi hj _ => by omega⟩
    obtain rfl : i = 0 := by omega
    exact hS.1 0 hi
  refine ⟨D, ka, (adK 0, adV 0), fun ad => ⟨hx, hb, hml, hr, hown, hlocks, ha, hn, hK, hstr⟩, ⟨hAO, hn2⟩, vx_Zqof (ht _ (List.mem_of_getElem? (i := 1305) (by decide +kernel))) (ht _ (List.mem_of_getElem? (i := 21) (by decide +kernel))) (hs _ an_cm2.2.2.1) hA, vx_Zqof (ht _ (List.mem_of_getElem? (i := 1307) (by decide +kernel))) (ht _ (List.mem_of_getElem? (i := 21) (by decide +kernel))) (hs _ an_cm2.2.2.2) hA, hn3⟩
