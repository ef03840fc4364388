/-! throwing and catching over a world of fixed objects -/
def an_xE : String := "java/util/NoSuchElementException"
def an_wx : List Cond := [.castable an_xE an_xE, .declares ⟨"java/lang/RuntimeException", "<init>", "()V"⟩, .declares ⟨"java/lang/Exception", "<init>", "()V"⟩, .declares ⟨"java/lang/Throwable", "<init>", "()V"⟩]
def an_ZZ (A : Nat → Prop) (U : State) (H : Heap) : Prop := vx_Zq Bundle.tN "UNASSIGNED_STACK" Bundle.steD A U H ∧ vx_Zq Bundle.tN "SUPPRESSED_SENTINEL" Bundle.listD A U H ∧ ∀ w ∈ an_wx, va_Nw w U
theorem an_wx.warm {s U : State} (hW : s.WarmedH U.vm) (h : ∀ w ∈ an_wx, va_Nw w s) : ∀ w ∈ an_wx, va_Nw w U := by
  intro w hw
  have h1 := h w hw
  simp only [an_wx, List.mem_cons, List.not_mem_nil, or_false] at hw
  rcases hw with rfl | rfl | rfl | rfl
  · exact va_Nw.warmC hW h1
  all_goals exact va_Nw.warmD hW h1
theorem an_wx.tab : ∀ w ∈ an_wx, w.onTables = true ∧ vx_ot w = true := by
  intro w hw
  simp only [an_wx, List.mem_cons, List.not_mem_nil, or_false] at hw
  rcases hw with rfl | rfl | rfl | rfl <;> exact ⟨rfl, rfl⟩
theorem an_wx.same {s U : State} (hv : s.vm = U.vm) (h : ∀ w ∈ an_wx, va_Nw w s) : ∀ w ∈ an_wx, va_Nw w U := fun w hw => va_Nw.same (an_wx.tab w hw).1 hv (h w hw)
theorem an_wxC : Cond.castable an_xE an_xE ∈ an_wx := List.mem_cons_self
def an_Wx (G : am_G) (A : Nat → Prop) (Y : am_Y) (h : am_H) (U : State) : Prop := am_W G A Y h U ∧ an_ZZ A U U.heap
def an_xN : List String := ["java/lang/RuntimeException", "java/lang/Exception"]
def an_XC (G : am_G) (A : Nat → Prop) (Y : am_Y) (Xq : am_H → Prop) : String → State → State → Prop := fun E st t =>
  E = an_xE ∧ (∃ h', Xq h' ∧ am_ok Y h' ∧ va_P G.1 am_cl (am_c G.2.1 G.2.2.1 Y h') t.heap) ∧ va_F A st t
def an_rx (d : Nat) : Room := { frames := d, cells := 1, slots := 6, locals := 64 * d }
/-- a method that returns or throws -/
def an_XM (M : am_M) (d : Nat) (Y : am_Y) (av : List am_V) (h : am_H) (Q : Option am_V → am_H → Prop) (Xq : am_H → Prop) : Prop :=
  ∀ (l : Launch) (G : am_G) (A : Nat → Prop), l.stackTraces = false → va_D A (am_c G.2.1 G.2.2.1 Y h) → am_ok Y h → (∀ v ∈ av, am_rv v) →
    vx_Met l M.1 (.code M.1 M.2.1 M.2.2.1 M.2.2.2 :: am_ws) (an_rx d) (va_Pc (av.map (am_vv G.2.1)) (an_Wx G A Y h)) (am_Q G A Y Q) (an_XC G A Y Xq) 1 6 A
theorem an_ZZ.at {A : Nat → Prop} {s U : State} {H : Heap} {locs : List Loc} (hZ : an_ZZ A s s.heap) (hS : va_S A s.heap H locs) (hU : U.heap = H) (hW : s.WarmedH U.vm) : an_ZZ A U U.heap := by
  rw [hU]
  exact ⟨vx_Zq.moved hW.alike (hZ.1.kept hS.2.1), vx_Zq.moved hW.alike (hZ.2.1.kept hS.2.1), an_wx.warm hW hZ.2.2⟩
theorem an_Wx.blind {G : am_G} {A : Nat → Prop} {Y : am_Y} {h : am_H} {av : List Value} : FrameBlind (va_Pc av (an_Wx G A Y h)) := by
  intro a U g mk ⟨hv, hW, hZ⟩
  have h1 := am_W.blind (G := G) (A := A) (Y := Y) (h := h) (av := av) a U g mk ⟨hv, hW⟩
  exact ⟨h1.1, h1.2, vx_Zq.moved (u := U) (U := U.calling g mk a) (Vm.Alike.refl U.vm) hZ.1, vx_Zq.moved (u := U) (U := U.calling g mk a) (Vm.Alike.refl U.vm) hZ.2.1, an_wx.same (s := U) (U := U.calling g mk a) rfl hZ.2.2⟩
section
variable {M M' : am_M} {d d' : Nat} {Y : am_Y} {pc : Nat} {ls : am_L} {st st0 : List am_V} {h : am_H} {Q Q' : Option am_V → am_H → Prop} {Xq : am_H → Prop}
theorem an_XM.of {av : List am_V} {ls : am_L} (hpl : plainName M.1.cls = true) (hls : am_en av ++ List.replicate (M.2.2.1 - (am_en av).length) none = ls) (hle : (am_en av).length ≤ M.2.2.1)
    (k : ∀ (p : Program) (l : Launch) (e : Env) (s : State) (m : MethodId) (args : Array Value) (below : List Frame) (meth : Method) (c : Code) (G : am_G) (A : Nat → Prop), l.stackTraces = false → an_ZZ A s s.heap → (∀ x ∈ c.exceptionTable.toList, False) →
      an_W p l e (an_rx d) s m args below meth c G A 0 0 (vx_MQ below (am_Q G A Y Q) (an_XC G A Y Xq) args s 1 6 A) M Y 0 ls [] h) : an_XM M d Y av h Q Xq := by
  subst hls
  intro l G A hl0 hD hok hav
  refine vx_ofW (cc := M.2.1) (maxL := M.2.2.1) (ret := M.2.2.2) hpl rfl ?_
  intro p e s m args below meth c s₁ B hml hT hv
  obtain ⟨rfl, ⟨hP, hK, hn, hstr⟩, hZ⟩ := hv
  have hts := atoms_spec (ws := .code M.1 M.2.1 M.2.2.1 M.2.2.2 :: am_ws) B.pre
  have X : am_X M p s m (av.map (am_vv G.2.1)).toArray meth c G A := ⟨B.exec, B.bytes, hml, B.returns, findClass_of_methodNamed B.named, B.notSynchronized, fun w hw => hts w (List.mem_cons_of_mem _ hw), hn, hK, hstr⟩
  have hl := lv_entry (av.map (am_vv G.2.1)) (n := M.2.2.1) (by rw [am_en_len]; exact hle)
  rw [lg_entry_eq]
  generalize (lg_sl (av.map (am_vv G.2.1)) ++ List.replicate (M.2.2.1 - (lg_sl (av.map (am_vv G.2.1))).length) Slot.unset).toArray = r at hl ⊢
  have hpre : ∀ (i : Nat) (v : am_V), (am_en av ++ List.replicate (M.2.2.1 - (am_en av).length) none)[i]? = some (some v) → (am_en av)[i]? = some (some v) := by
    intro i v hv
    by_cases hi : i < (am_en av).length
    · rwa [List.getElem?_append_left hi] at hv
    · rw [List.getElem?_append_right (by omega)] at hv
      have := List.getElem?_eq_some_iff.mp hv
      obtain ⟨h1, h2⟩ := this
      simp at h2
  exact k p l e s m _ below meth c G A hl0 hZ hT X s.heap [] r hP hD va_S.rf hok (fun i v hv => hav v (am_en_at G.2.1 av i v 0 (hpre i v hv)).1) (fun v hv => by simp at hv) ⟨hl.1, hl.2.1, fun i v hv => by
    have h1 := hl.2.2 _ (am_en_at G.2.1 av i v 0 (hpre i v hv)).2
    simpa using h1⟩
end
section
variable {p : Program} {l : Launch} {e : Env} {R : Room} {s : State} {m : MethodId} {args : Array Value} {below : List Frame} {meth : Method} {c : Code} {G : am_G} {A : Nat → Prop} {cs ss : Nat} {E : State → Prop}
variable {M M' : am_M} {d d' : Nat} {Y : am_Y} {pc : Nat} {ls : am_L} {st st0 : List am_V} {h : am_H} {Q Q' : Option am_V → am_H → Prop} {Xq : am_H → Prop} {XC : String → State → State → Prop}
theorem an_W.widen {k n : Nat} (h1 : cs ≤ k) (h2 : ss ≤ n) (kk : an_W p l e R s m args below meth c G A k n E M Y pc ls st h) : an_W p l e R s m args below meth c G A cs ss E M Y pc ls st h :=
  fun X H locs r hP hD hS ho hll hs hr => W.widen h1 h2 (kk X H locs r hP hD hS ho hll hs hr)
theorem an_iret {x : Int} {mc ms : Nat} (hd : decode M.2.1 pc = .ok (.ireturn, 1)) (hr : M.2.2.2 = some .int) (hc : cs ≤ mc) (hs2 : ss ≤ ms) (hq : Q (some (.inl x)) h) : an_W p l e R s m args below meth c G A cs ss (MQ below (am_Q G A Y Q) args s mc ms A) M Y pc ls [.inl x] h := by
  intro X H locs r hP hD hS ho hll hs hr1
  exact W.widen hc hs2 (W.iret X.1 X.2.1 (X.2.2.2.1.trans hr) (fun t ht _ => ⟨⟨some (.inl x), h, rfl, hq, ho, fun v hv => by cases hv; exact am_hd hs, by rw [ht]; exact hP⟩, hS.F ht⟩) hS.2.2 hd X.2.2.2.2.2.1)
theorem an_lret {x : Int} {mc ms : Nat} (hd : decode M.2.1 pc = .ok (.lreturn, 1)) (hr : M.2.2.2 = some .long) (hc : cs ≤ mc) (hs2 : ss ≤ ms) (hq : Q (some (.inr (.inl x))) h) : an_W p l e R s m args below meth c G A cs ss (MQ below (am_Q G A Y Q) args s mc ms A) M Y pc ls [.inr (.inl x)] h := by
  intro X H locs r hP hD hS ho hll hs hr1
  exact W.widen hc hs2 (W.lret X.1 X.2.1 (X.2.2.2.1.trans hr) (fun t ht _ => ⟨⟨some (.inr (.inl x)), h, rfl, hq, ho, fun v hv => by cases hv; exact am_hd hs, by rw [ht]; exact hP⟩, hS.F ht⟩) hS.2.2 hd X.2.2.2.2.2.1)
theorem an_ret {mc ms : Nat} (k : an_W p l e R s m args below meth c G A cs ss (MQ below (am_Q G A Y Q) args s mc ms A) M Y pc ls st h) : an_W p l e R s m args below meth c G A cs ss (vx_MQ below (am_Q G A Y Q) XC args s mc ms A) M Y pc ls st h :=
  fun X H locs r hP hD hS ho hll hs hr => vx_ret (k X H locs r hP hD hS ho hll hs hr)
/-- new NoSuchElementException, thrown -/
theorem an_throw {ik ic : Nat} (hl : l.stackTraces = false) (hZ : an_ZZ A s s.heap) (hT : ∀ x ∈ c.exceptionTable.toList, False) (hd6 : 6 ≤ d)
    (hk : Cond.classLink M.1.cls ik an_xE ∈ am_ws) (hini : Cond.initialized an_xE ∈ am_ws) (hat : ∀ w ∈ vx_at0 M.1.cls ic an_xE an_xN, w ∈ am_ws ∨ w ∈ an_wx)
    (d0 : decode M.2.1 pc = .ok (.new ik, 3)) (d3 : decode M.2.1 (pc + 3) = .ok (.dup, 1)) (d4 : decode M.2.1 (pc + 4) = .ok (.invokespecial ic, 3)) (d7 : decode M.2.1 (pc + 7) = .ok (.athrow, 1)) (hx : Xq h) :
    an_W p l e (an_rx d) s m args below meth c G A 0 0 (vx_MQ below (am_Q G A Y Q) (an_XC G A Y Xq) args s 1 6 A) M Y pc ls [] h := by
  intro X H locs r hP hD hS ho hll hs hr1
  have hW := X.2.2.2.2.2.2.1
  have ot : ∀ w ∈ am_ws, vx_ot w = true := fun w hw => by
    have := (List.mem_filter.mp hw).2
    unfold vx_ot
    rw [this, Bool.or_true]
  refine vx_throw0 (own := M.1.cls) (cls := an_xE) (names := an_xN) X.1 X.2.1 hl X.2.2.2.2.1 (by decide +kernel) (by decide +kernel) (hW _ hk) (hW _ hini) (fun w hw => (hat w hw).elim (hW _) (fun e1 => va_Nw.use (an_wx.tab w e1).1 (hZ.2.2 w e1)))
    (fun w hw => (List.mem_cons.mp hw).elim (fun e1 => ot w (e1.symm ▸ hk)) (fun hw => (List.mem_cons.mp hw).elim (fun e1 => ot w (e1.symm ▸ hini)) (fun hw => (hat w hw).elim (ot w) (fun e1 => (an_wx.tab w e1).2))))
    hZ.1 hZ.2.1 hS (hr1.1.trans X.2.2.1.symm) d0 d3 d4 d7 (fun x hx => (hT x hx).elim) (by show 2 + 3 < d; omega) (by show 0 + (13 * (2 + 1) + 42) ≤ 64 * d; omega) (Nat.le_refl _) (Nat.le_refl _) X.2.2.2.2.2.1
    (fun t ht h1 h2 => ⟨rfl, ⟨h, hx, ho, hP.kept (fun k q hq => h2 q.1 ((hP k q hq).lt))⟩, Nat.le_trans hS.1 h1, fun q g1 g2 => (h2 q (Nat.lt_of_lt_of_le g1 hS.1)).trans (hS.2.1 q g1 g2)⟩) hS.2.2 (Nat.le_refl _) (Nat.le_refl _)
theorem am_setN {ad : Nat → Nat} {nL i : Nat} {ls : am_L} {r : Array Slot} {w : Value} (hn : am_nl ls i = true) (h : lv_has r nL ((i, w) :: (am_al ad ls).filter (fun q => !(q.1 == i) && !(q.1 + 1 == i && q.2.category == 2)))) : am_lv ad nL (ls.set i none) r := by
  refine ⟨h.1, h.2.1, fun j v hw => ?_⟩
  by_cases hj : j = i
  · subst hj
    have hlt : j < ls.length := by
      have := (List.getElem?_eq_some_iff.mp hw).1
      simpa using this
    rw [List.getElem?_set_self hlt] at hw
    cases hw
  · rw [List.getElem?_set_ne (Ne.symm hj)] at hw
    refine h.2.2 (j, am_vv ad v) (List.mem_cons_of_mem _ (List.mem_filter.mpr ⟨am_al_of hw, ?_⟩))
    have h2 : ¬ (j + 1 = i ∧ (am_vv ad v).category = 2) := fun ⟨e1, e2⟩ => am_nl_of hn hw e1 e2
    simp [hj]
    omega
/-- a call of a method that returns or throws, with a handler that stores what it catches -/
theorem an_callXC {o k nn idx n i ct : Nat} {x : ExceptionTableEntry} {As : List am_V} (hl0 : l.stackTraces = false) (hZ : an_ZZ A s s.heap) (hd : decode M.2.1 pc = .ok (.invokevirtual idx, 3)) (hw : am_cv M' n) (hl : Cond.methodLink M.1.cls idx M'.1 ∈ am_ws) (hrf : d' + 1 ≤ R.frames) (hrl : 59 + 64 * d' ≤ R.locals) (hcs : cs + 1 ≤ R.cells) (hss : ss + 6 ≤ R.slots) (hn : As.length = n) (hst : st0 = As.reverse ++ .inr (.inr o) :: st) (hrs : am_rs st ≤ 8)
    (hc : ∃ (T : u_T) (N : Nat), k < 13 ∧ am_cl[k]? = some (M'.1.cls, T, N)) (hY : Y[o]? = some (k, nn)) (hM : an_XM M' d' Y (.inr (.inr o) :: As) h Q' Xq)
    (hT : c.exceptionTable.toList = [x]) (hx : covers x pc = true) (hx0 : x.catchType ≠ 0) (hcl : Cond.classLink M.1.cls x.catchType an_xE ∈ am_ws) (hh : x.handlerPc = ct) (hda : decode M.2.1 ct = .ok (.astore i, 2)) (hni : Nat.ble (i + 1) M.2.2.1 = true) (hb : am_nl ls i = true)
    (kk : ∀ rv h1, Q' rv h1 → an_W p l e R s m args below meth c G A (cs + 1) (ss + 6) E M Y (pc + 3) ls (rv.toList ++ st) h1)
    (kx : ∀ h1, Xq h1 → an_W p l e R s m args below meth c G A (cs + 1) (ss + 6) E M Y (ct + 2) (ls.set i none) [] h1) : an_W p l e R s m args below meth c G A cs ss E M Y pc ls st0 h := by
  subst hst
  intro X H locs r hP hD hS ho hll hs hr
  have hA : ∀ v ∈ (.inr (.inr o) :: As : List am_V), am_rv v := fun v hv => by
    rcases List.mem_cons.mp hv with rfl | hv
    · trivial
    · exact hs v (List.mem_append_left _ (List.mem_reverse.mpr hv))
  have hsr : ∀ v ∈ st, am_rv v := fun v hv => hs v (List.mem_append_right _ (List.mem_cons_of_mem _ hv))
  obtain ⟨T0, N, hk, hc⟩ := hc
  have he := am_c_at (ad := G.2.1) (ka := G.2.2.1) (h := h) hY
  rw [am_e_o hk] at he
  have hMet := hM l G A hl0 hD ho hA
  have hW := X.2.2.2.2.2.2.1
  have hrun := vx_runV (p := p) (e := e) (R := R) (below := below) (meth := meth) (H := H) (locs := locs) (cells := cs) (slots := ss) (g := F0 m pc r ((As.reverse ++ .inr (.inr o) :: st).map (am_vv G.2.1))) (rest := st.map (am_vv G.2.1)) (As := As.map (am_vv G.2.1)) (b := G.2.1 o) (C := M'.1.cls) (own := M.1.cls) (nL := M.2.2.1) (Ts := am_ws) ⟨X.1, X.2.1, X.2.2.1, X.2.2.2.2.1, hW⟩ hMet
      ⟨callB_of n hW (am_gws hw.1) rfl rfl rfl (hW _ hw.2.1) (hW _ hl) hw.2.2.2.2.1 ⟨hrf, by have := hw.2.2.2.2.2; show 8 + (M'.2.2.1 + 11) + 64 * d' ≤ R.locals; omega⟩, hW _ hw.2.2.1, hW _ hw.2.2.2.1⟩
      ⟨an_Wx.blind, va_recv X.2.2.2.2.2.2.2.2.1 hP hc he, fun U hU hWU => ⟨rfl, am_W.at hP X.2.2.2.2.2.2.2.2.1 X.2.2.2.2.2.2.2.1 X.2.2.2.2.2.2.2.2.2 hS hU hWU, hZ.at hS hU hWU⟩⟩ rfl (by simpa using hn) (hr.1) (by simp [am_vv]) (lv_room (by rw [am_rs_eq]; exact hrs)) hd ⟨hcs, hss⟩
  intro T hT0 X0
  have key : ∀ (st₀ t T' : State) (L : List Loc), st₀.heap = H → T'.heap = t.heap → (∀ q ∈ L, A q.base) → va_F A st₀ t → va_S A s.heap T'.heap (locs ++ L) := by
    intro st₀ t T' L h0 e1 hL hF
    obtain ⟨hz, hk⟩ := hF
    rw [h0] at hz hk
    exact ⟨Nat.le_trans hS.1 (by rw [e1]; exact hz), fun q h1 h2 => by rw [e1, hk q (Nat.lt_of_lt_of_le h1 hS.1) h2]; exact hS.2.1 q h1 h2, fun q hq => by
      rcases List.mem_append.mp hq with h | h
      · exact hS.2.2 q h
      · exact hL q h⟩
  rcases hrun T hT0 X0 with ⟨v, st₀, t, T', L, h0, X', hL, e1, e2, ⟨⟨rv, h1, hv, hq, hok, hrv, hP1⟩, hF⟩, stp⟩ | ⟨q, st₀, t, T', L, Ecl, ce, h0, X', hL, e1, e2, ⟨hE, ⟨h1, hq, hok, hP1⟩, hF⟩, hce, hcv, hfc, stp⟩
  · cases hv
    have hst : ∀ v ∈ rv.toList ++ st, am_rv v := fun v hv => by
      rcases List.mem_append.mp hv with h | h
      · exact hrv v (by cases rv with
          | none => simp at h
          | some w => simp at h; rw [h])
      · exact hsr v h
    obtain ⟨t2, a1, b1⟩ := kk rv h1 hq X T'.heap (locs ++ L) r (by rw [e1]; exact hP1) (am_D_of hD) (key st₀ t T' L h0 e1 hL hF) hok hll hst hr T' rfl X'
    refine ⟨t2, stp t2 ?_, b1⟩
    have e3 : (rv.map (am_vv G.2.1)).toList ++ st.map (am_vv G.2.1) = (rv.toList ++ st).map (am_vv G.2.1) := by cases rv <;> simp
    show Steps p.tables e below (T'.setTop { method := m, pc := pc + 3, locals := r, stack := (rv.map (am_vv G.2.1)).toList ++ st.map (am_vv G.2.1), locked := none }) t2
    rw [e3]
    exact a1
  · subst hE
    have hS1 := key st₀ t T' L h0 e1 hL hF
    have hcatch : vx_W p l e R s m args below meth c T'.heap (locs ++ L) (cs + 1) (ss + 6) E (F0 m pc r (st.map (am_vv G.2.1))) q := by
      refine vx_catch (own := M.1.cls) (name := an_xE) (E := an_xE) (ce := ce) X.2.2.2.2.1 [] x [] hT (fun z hz => by cases hz) hx hx0 (hW _ hcl) (va_Nw.use rfl (hZ.2.2 _ an_wxC)) (by rw [e1]; exact hce) hcv hfc ?_
      rw [hh]
      exact lv_astore X.1 X.2.1 hda (am_has hr) (Nat.le_of_ble_eq_true hni) rfl (fun r' hr' => kx h1 hq X T'.heap (locs ++ L) r' (by rw [e1]; exact hP1) (am_D_of hD) hS1 hok (am_ll_none hll) (fun v hv => by simp at hv) (am_setN hb hr'))
    obtain ⟨t2, a1, b1⟩ := hcatch T' rfl X'
    exact ⟨t2, stp.trans a1, b1⟩
end
