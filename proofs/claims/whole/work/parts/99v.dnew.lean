/-! constructors called, ended, and told as contracts -/
theorem an_B.at {D : va_G} {ka : Nat → ClassId} {sa : Nat × Nat} {A B : Nat → Prop} {s U : State} {H : Heap} {locs : List Loc} (hK : va_K D am_cl (am_tys ka) s) (hn : ∀ w ∈ am_wn, va_Nw w s) (hs : am_str sa A s s.heap) (hO : an_O s) (hS : va_S A s.heap H locs) (hU : U.heap = H) (hW : s.WarmedH U.vm) (hB : ∀ q, B q → A q) : an_B D ka sa B U := by
  refine ⟨va_K.moved hW.alike hK, am_wn.warm hW hn, ?_, an_O.warm hW hO⟩
  rw [hU]
  exact (hs.moved hW hS.2.1).narrow hB
theorem an_CP.blind {D : va_G} {ka : Nat → ClassId} {sa : Nat × Nat} {av : List Value} {sz : Nat} {ws : va_W} {B : Nat → Prop} : FrameBlind (va_Pc av (fun U => U.heap.size = sz ∧ va_P D am_cl ws U.heap ∧ an_B D ka sa B U)) := by
  intro a U g mk ⟨hv, hsz, hP, hK, hn, hs, hO⟩
  exact ⟨hv, hsz, hP, va_K.moved (u := U) (U := U.calling g mk a) (Vm.Alike.refl U.vm) hK, am_wn.same (s := U) (U := U.calling g mk a) rfl hn, am_str.same (s := U) (U := U.calling g mk a) rfl hs, an_O.same (s := U) (U := U.calling g mk a) rfl hO⟩
section
variable {p : Program} {l : Launch} {e : Env} {R : Room} {s : State} {m : MethodId} {args : Array Value} {below : List Frame} {meth : Method} {c : Code} {G : am_G} {A : Nat → Prop} {M : am_M} {E : State → Prop} {r : Array Slot}
variable {cs ss pc : Nat} {pre : va_W} {Y : am_Y} {ad : Nat → Nat} {h : am_H} {st : List Value}
/-- new; dup; invokespecial -/
theorem an_Dnew {i1 i2 k1 d1 nc1 ns1 n0 N : Nat} {T : u_T} {ty : Nat → FieldType} {M1 : am_M} {L1 : am_Y} {Z1 : am_H → Prop} (hO : an_O s) (hM : an_CP M1 k1 d1 nc1 ns1 L1 Z1) (hn0 : Y.length = n0) (hclo : an_clo Y = true)
    (e0 : decode M.2.1 pc = .ok (.new i1, 3)) (e3 : decode M.2.1 (pc + 3) = .ok (.dup, 1)) (e4 : decode M.2.1 (pc + 4) = .ok (.invokespecial i2, 3))
    (hC : am_cl[k1]? = some (M1.1.cls, T, N)) (hin : ∀ w ∈ u_ws M1.1.cls T N, w ∈ am_ws) (hty : ∀ j, j < N → parseFieldDescriptor (T j).2.2.1 = some (ty j)) (hf0 : ∀ j, j < N → defaultValue (ty j) = vp_V (an_f0 (am_fk k1)) j)
    (hcl : Cond.classLink M.1.cls i1 M1.1.cls ∈ am_ws) (hinst : Cond.instantiable M1.1.cls N ∈ am_ws) (hini : Cond.initialized M1.1.cls ∈ am_ws) (hcode : Cond.code M1.1 M1.2.1 M1.2.2.1 M1.2.2.2 ∈ am_ws) (hret : M1.2.2.2 = none) (hlink : Cond.methodLink M.1.cls i2 M1.1 ∈ am_ws ∨ Cond.methodLinkNest M.1.cls i2 M1.1 "NightHelp" ∈ an_wn) (hinm : Cond.instanceMethod M1.1 ∈ am_ws) (hname : M1.1.name = "<init>")
    (hdesc : M1.1.cls ≠ "java/lang/invoke/MethodHandle" ∧ M1.1.cls ≠ "java/lang/invoke/VarHandle" ∧ (parseMethodDescriptor M1.1.desc).map (fun d => d.parameters.length) = some 0) (hmaxL : M1.2.2.1 ≤ 40)
    (hrf : d1 + 1 ≤ R.frames) (hrl : 59 + 64 * d1 ≤ R.locals) (hcs : cs + 1 + nc1 ≤ R.cells) (hss : ss + N + ns1 ≤ R.slots) (hrsz : r.size = M.2.2.1) (hst : 1 + (st.map fun v => v.category).sum ≤ 8)
    (kk : ∀ (ad1 : Nat → Nat) (h1 : am_H), Z1 h1 → an_D p l e R s m args below meth c G A M E r (cs + 1 + nc1) (ss + N + ns1) (pc + 7) pre (Y ++ L1) (an_ap n0 ad ad1) (an_ap n0 h h1) (.ref (ad1 0) :: st)) : an_D p l e R s m args below meth c G A M E r cs ss pc pre Y ad h st := by
  obtain ⟨y1, b1, x1, ret1⟩ := M1
  cases hret
  intro X hA H locs hP hD hS ho
  have hW := X.2.2.2.2.2.2.1
  have hK := X.2.2.2.2.2.2.2.2.1
  refine va_new (own := M.1.cls) (ci := k1) (fs := an_f0 (am_fk k1)) (C := y1.cls) (T := T) (N := N) X.1 X.2.1 hW hin ty hty X.2.2.2.2.1 (hW _ hcl) (hW _ hinst) (hW _ hini) hK hP hD hS hA hC hf0 (by omega) (by omega) e0 (fun q H1 hP1 hD1 hS1 => ?_)
  refine lv_dup X.1 X.2.1 e3 rfl ?_
  have hAq : A q := hD1.2 _ (q, .inr (k1, an_f0 (am_fk k1))) (by rw [List.getElem?_append_right (Nat.le_refl _), Nat.sub_self]; rfl)
  have hAA : ∀ z, an_A q H1.size z → A z := fun z hz => by
    rcases hz with rfl | hz
    · exact hAq
    · exact hA z (Nat.le_trans hS1.1 hz)
  have hrun : va_Run p l e R s m args below meth c H1 locs (cs + 1) (ss + N) nc1 ns1 (F0 m (pc + 4) r (.ref q :: .ref q :: st)) (.ref q :: st) (an_QC G.1 G.2.2.1 q H1.size L1 Z1 (Value.ref q :: []).toArray) (an_A q H1.size) := by
    rcases hlink with hlink | hlink
    · exact va_runI (p := p) (e := e) (R := R) (below := below) (meth := meth) (H := H1) (locs := locs) (cells := cs + 1) (slots := ss + N) (g := F0 m (pc + 4) r (.ref q :: .ref q :: st)) (rest := .ref q :: st) (As := []) (b := q) (own := M.1.cls) (nL := M.2.2.1) (Ts := am_ws) ⟨X.1, X.2.1, X.2.2.1, X.2.2.2.2.1, hW⟩ (hM l G.1 G.2.2.1 G.2.2.2 q H1.size)
        (cwI 0 hW (am_gws (M := (y1, b1, x1, none)) hcode) rfl rfl rfl (hW _ hini) (hW _ hlink) (hW _ hinm) hname hdesc ⟨hrf, by show 8 + (x1 + 11) + 64 * d1 ≤ R.locals; have : x1 ≤ 40 := hmaxL; omega⟩)
        ⟨an_CP.blind, fun U hU hWU => ⟨rfl, by rw [hU], by rw [hU]; exact (va_P.split hP1).2, an_B.at hK X.2.2.2.2.2.2.2.1 X.2.2.2.2.2.2.2.2.2 hO hS1 hU hWU hAA⟩⟩ rfl rfl hrsz rfl (lv_room (by show (1 + (st.map fun v => v.category).sum) ≤ 8; exact hst)) e4 ⟨hcs, hss⟩
    · exact va_runIN (p := p) (e := e) (R := R) (below := below) (meth := meth) (H := H1) (locs := locs) (cells := cs + 1) (slots := ss + N) (g := F0 m (pc + 4) r (.ref q :: .ref q :: st)) (rest := .ref q :: st) (As := []) (b := q) (own := M.1.cls) (nL := M.2.2.1) (Ts := am_ws) ⟨X.1, X.2.1, X.2.2.1, X.2.2.2.2.1, hW⟩ (hM l G.1 G.2.2.1 G.2.2.2 q H1.size)
        ⟨va_cnB (host := "NightHelp") 0 hW (am_gws (M := (y1, b1, x1, none)) hcode) rfl rfl rfl (hO.2 _ hlink) (hW _ hini) hdesc ⟨hrf, by show 8 + (x1 + 11) + 64 * d1 ≤ R.locals; have : x1 ≤ 40 := hmaxL; omega⟩, hname, hW _ hinm⟩
        ⟨an_CP.blind, fun U hU hWU => ⟨rfl, by rw [hU], by rw [hU]; exact (va_P.split hP1).2, an_B.at hK X.2.2.2.2.2.2.2.1 X.2.2.2.2.2.2.2.2.2 hO hS1 hU hWU hAA⟩⟩ rfl rfl hrsz rfl (lv_room (by show (1 + (st.map fun v => v.category).sum) ≤ 8; exact hst)) e4 ⟨hcs, hss⟩
  intro T1 hT X1
  obtain ⟨v, st₀, t, T', L, h00, X', hL, e1, e2, ⟨⟨hv, ad1, h1, had, hz, hok1, hP2, hD2⟩, hF⟩, stp⟩ := hrun T1 hT X1
  cases hv
  obtain ⟨hFz, hFk⟩ := hF
  rw [h00] at hFz hFk
  have hPw := (va_P.split hP1).1
  obtain ⟨hDw, -, hdis⟩ := hD1.split
  have apart : ∀ (k : Nat) (x : Nat × va_E), (pre ++ am_c ad G.2.2.1 Y h)[k]? = some x → x.1 < H1.size ∧ ¬ an_A q H1.size x.1 := fun k x hx => by
    have hl := (hPw k x hx).lt
    refine ⟨hl, fun z => ?_⟩
    rcases z with z | z
    · exact hdis k 0 x (q, .inr (k1, an_f0 (am_fk k1))) hx rfl z
    · omega
  have hP3 : va_P G.1 am_cl ((pre ++ am_c ad G.2.2.1 Y h) ++ am_c ad1 G.2.2.1 L1 h1) T'.heap := by
    rw [e1]
    exact va_P.app (hPw.kept fun k x hx => hFk x.1 (apart k x hx).1 (apart k x hx).2) hP2
  have hD3 : va_D A ((pre ++ am_c ad G.2.2.1 Y h) ++ am_c ad1 G.2.2.1 L1 h1) :=
    va_D.app hDw (hD2.weaken fun k x _ hx => hAA x.1 hx) fun i j x y hx hy hxy => (apart i x hx).2 (by rw [hxy]; exact hD2.2 j y hy)
  rw [List.append_assoc, ← an_c_app hn0 hclo] at hP3 hD3
  have hS2 : va_S A s.heap T'.heap (locs ++ L) := ⟨Nat.le_trans hS1.1 (by rw [e1]; exact hFz), fun z g1 g2 => by rw [e1, hFk z (Nat.lt_of_lt_of_le g1 hS1.1) (fun w => g2 (hAA z w))]; exact hS1.2.1 z g1 g2, fun z hz => by
    rcases List.mem_append.mp hz with w | w
    · exact hS1.2.2 z w
    · exact hAA _ (hL z w)⟩
  obtain ⟨t2, a1, b2⟩ := kk ad1 h1 hz X hA T'.heap (locs ++ L) hP3 hD3 hS2 (an_ok_app hn0 ho hok1) T' rfl X'
  refine ⟨t2, stp t2 ?_, b2⟩
  rw [had] at a1
  exact a1
/-- the object in front has its fields -/
theorem an_Dfin {h0 k : Nat} {fs : List Value} (g : Nat → Int) (hg : ∀ j, am_rg (am_ty (k, 0) j) (g j)) (hk : k < 13) (hfs : fs = am_fs (an_ap 1 (fun _ => h0) ad) 0 g (am_fk k)) (kk : an_D p l e R s m args below meth c G A M E r cs ss pc [] ((k, 0) :: Y) (an_ap 1 (fun _ => h0) ad) (an_ap 1 (fun _ => g) h) st) : an_D p l e R s m args below meth c G A M E r cs ss pc [(h0, .inr (k, fs))] Y ad h st := by
  intro X hA H locs hP hD hS ho
  have e1 : ([(h0, .inr (k, fs))] ++ am_c ad G.2.2.1 Y h : va_W) = am_c (an_ap 1 (fun _ => h0) ad) G.2.2.1 ((k, 0) :: Y) (an_ap 1 (fun _ => g) h) := an_c_cons hk hfs
  rw [e1] at hP hD
  refine kk X hA H locs hP hD hS (an_ok_app (Y1 := [(k, 0)]) rfl (fun o y hy j => ?_) ho)
  have h9 := (List.getElem?_eq_some_iff.mp hy).1
  have h8 : o = 0 := by simpa using h9
  subst h8
  cases hy
  exact hg j
theorem an_DY {Y' : am_Y} (hY : Y = Y') (kk : an_D p l e R s m args below meth c G A M E r cs ss pc pre Y' ad h st) : an_D p l e R s m args below meth c G A M E r cs ss pc pre Y ad h st := by
  subst hY
  exact kk
theorem an_Dret {h0 nc ns : Nat} {Z : am_H → Prop} (hA0 : A = an_A h0 s.heap.size) (hd : decode M.2.1 pc = .ok (.return_, 1)) (hret : M.2.2.2 = none) (had : ad 0 = h0) (hz : Z h) (h1 : cs ≤ nc) (h2 : ss ≤ ns) : an_D p l e R s m args below meth c G A M (MQ below (an_QC G.1 G.2.2.1 h0 s.heap.size Y Z) args s nc ns A) r cs ss pc [] Y ad h [] := by
  subst hA0
  intro X hA H locs hP hD hS ho
  exact W.widen h1 h2 (W.vret X.1 X.2.1 (X.2.2.2.1.trans hret) (fun t ht _ => ⟨⟨rfl, ad, h, had, hz, ho, by rw [ht]; exact hP, hD⟩, hS.F ht⟩) hS.2.2 hd X.2.2.2.2.2.1)
/-- from here over a world that grows no more -/
theorem an_DW {ls : am_L} {st' : List am_V} (hst : st = st'.map (am_vv ad)) (hll : am_ll ls) (hs : ∀ v ∈ st', am_rv v) (hr : am_lv ad M.2.2.1 ls r) (k : an_W p l e R s m args below meth c (G.1, ad, G.2.2.1, G.2.2.2) A cs ss E M Y pc ls st' h) : an_D p l e R s m args below meth c G A M E r cs ss pc [] Y ad h st := by
  subst hst
  intro X hA H locs hP hD hS ho
  exact k X H locs r hP hD hS ho hll hs hr
theorem an_Wret {h0 nc ns : Nat} {Z : am_H → Prop} {ls : am_L} (hA0 : A = an_A h0 s.heap.size) (hd : decode M.2.1 pc = .ok (.return_, 1)) (hret : M.2.2.2 = none) (had : G.2.1 0 = h0) (hz : Z h) (h1 : cs ≤ nc) (h2 : ss ≤ ns) : an_W p l e R s m args below meth c G A cs ss (MQ below (an_QC G.1 G.2.2.1 h0 s.heap.size Y Z) args s nc ns A) M Y pc ls [] h := by
  subst hA0
  intro X H locs r hP hD hS ho hll hs hr
  exact W.widen h1 h2 (W.vret X.1 X.2.1 (X.2.2.2.1.trans hret) (fun t ht _ => ⟨⟨rfl, G.2.1, h, had, hz, ho, by rw [ht]; exact hP, hD⟩, hS.F ht⟩) hS.2.2 hd X.2.2.2.2.2.1)
end
theorem an_CP.of {M : am_M} {k d nc ns : Nat} {L : am_Y} {Z : am_H → Prop} (hpl : plainName M.1.cls = true) (hx : M.2.2.1 = 1) (hname : M.1.name = "<init>") (fs0 : List Value) (hf : an_f0 (am_fk k) = fs0)
    (kk : ∀ (p : Program) (l : Launch) (e : Env) (s : State) (m : MethodId) (args : Array Value) (below : List Frame) (meth : Method) (c : Code) (G : am_G) (A : Nat → Prop) (h0 : Nat) (r : Array Slot), an_O s → A = an_A h0 s.heap.size → meth.name = "<init>" → r.size = M.2.2.1 → r[0]? = some (.val (.ref h0)) → lv_wf r →
      an_D p l e (an_rc d nc ns) s m args below meth c G A M (MQ below (an_QC G.1 G.2.2.1 h0 s.heap.size L Z) args s nc ns A) r 0 0 0 [(h0, .inr (k, fs0))] [] (fun _ => 0) an_z []) : an_CP M k d nc ns L Z := by
  subst hf
  intro l D ka sa h0 sz
  refine Met.ofW (cc := M.2.1) (maxL := M.2.2.1) (ret := M.2.2.2) hpl rfl ?_
  intro p e s m args below meth c s₁ B hml hv
  obtain ⟨rfl, hsz, hP, hK, hn, hstr, hO⟩ := hv
  subst hsz
  have hts := atoms_spec (ws := .code M.1 M.2.1 M.2.2.1 M.2.2.2 :: am_ws) B.pre
  have X : am_X M p s m #[Value.ref h0] meth c (D, (fun _ => 0), ka, sa) (an_A h0 s.heap.size) := ⟨B.exec, B.bytes, hml, B.returns, findClass_of_methodNamed B.named, B.notSynchronized, fun w hw => hts w (List.mem_cons_of_mem _ hw), hn, hK, hstr⟩
  have hl := lv_entry ([.ref h0]) (n := M.2.2.1) (by rw [hx]; exact Nat.le_of_ble_eq_true rfl)
  rw [lg_entry_eq]
  generalize (lg_sl ([.ref h0]) ++ List.replicate (M.2.2.1 - (lg_sl ([.ref h0])).length) Slot.unset).toArray = r at hl ⊢
  have hin : meth.name = "<init>" := ((name_of_methodNamed B.named B.method).1).trans hname
  have hr0 : r[0]? = some (.val (.ref h0)) := hl.2.2 (0, .ref h0) (by simp [lv_args])
  refine kk p l e s m _ below meth c (D, (fun _ => 0), ka, sa) (an_A h0 s.heap.size) h0 r hO rfl hin hl.1 hr0 hl.2.1 X (fun q hq => Or.inr hq) s.heap [] ?_ ?_ va_S.rf (fun _ _ hy => by simp at hy)
  · rw [show am_c (fun _ => 0) ka [] an_z = [] from rfl, List.append_nil]
    exact hP
  · rw [show am_c (fun _ => 0) ka [] an_z = [] from rfl, List.append_nil]
    refine ⟨fun i j x y hx hy _ => ?_, fun k q hq => ?_⟩
    · have := (List.getElem?_eq_some_iff.mp hx).1
      have := (List.getElem?_eq_some_iff.mp hy).1
      simp at *
      omega
    · have h9 := (List.getElem?_eq_some_iff.mp hq).1
      have h8 : k = 0 := by simpa using h9
      subst h8
      cases hq
      exact Or.inl rfl
