/-! rows over a world that grows -/
def an_D (p : Program) (l : Launch) (e : Env) (R : Room) (s : State) (m : MethodId) (args : Array Value) (below : List Frame) (meth : Method) (c : Code) (G : am_G) (A : Nat → Prop) (M : am_M) (E : State → Prop) (r : Array Slot) (cs ss pc : Nat) (pre : va_W) (Y : am_Y) (ad : Nat → Nat) (h : am_H) (st : List Value) : Prop :=
  am_X M p s m args meth c G A → (∀ q, s.heap.size ≤ q → A q) → ∀ (H : Heap) (locs : List Loc), va_P G.1 am_cl (pre ++ am_c ad G.2.2.1 Y h) H → va_D A (pre ++ am_c ad G.2.2.1 Y h) → va_S A s.heap H locs → am_ok Y h →
    W p l e R s m args below meth c H locs cs ss E (F0 m pc r st)
/-- what a constructor owes at its end -/
def an_QC (D : va_G) (ka : Nat → ClassId) (h0 sz : Nat) (L : am_Y) (Z : am_H → Prop) : Array Value → State → Outcome → State → Prop := fun _ st o t =>
  (o = .returned none ∧ ∃ (ad : Nat → Nat) (h : am_H), ad 0 = h0 ∧ Z h ∧ am_ok L h ∧ va_P D am_cl (am_c ad ka L h) t.heap ∧ va_D (an_A h0 sz) (am_c ad ka L h)) ∧ va_F (an_A h0 sz) st t
def an_f0 (l : List Nat) : List Value := l.map fun f => if f = 0 then .int 0 else if f = 1 then .long 0 else if f = 2 then .int 0 else .null
def an_rc (d nc ns : Nat) : Room := { frames := d, cells := nc, slots := ns, locals := 64 * d }
def an_wn : List Cond := [.methodLinkNest "NightHelp" 22 ⟨"NightHelp$State", "<init>", "()V"⟩ "NightHelp", .methodLinkNest "NightHelp" 33 ⟨"NightHelp$VillageText", "<init>", "()V"⟩ "NightHelp", .methodLinkNest "NightHelp$VillageText" 11 ⟨"NightHelp$Tokens", "<init>", "()V"⟩ "NightHelp", .methodLinkNest "NightHelp" 40 ⟨"NightHelp$BookText", "<init>", "()V"⟩ "NightHelp", .methodLinkNest "NightHelp$BookText" 11 ⟨"NightHelp$Tokens", "<init>", "()V"⟩ "NightHelp", .methodLinkNest "NightHelp" 47 ⟨"NightHelp$SentenceText", "<init>", "()V"⟩ "NightHelp", .methodLinkNest "NightHelp$SentenceText" 11 ⟨"NightHelp$Tokens", "<init>", "()V"⟩ "NightHelp", .methodLinkNest "NightHelp" 54 ⟨"NightHelp$Best", "<init>", "()V"⟩ "NightHelp", .methodLinkNest "NightHelp" 61 ⟨"NightHelp$Run", "<init>", "()V"⟩ "NightHelp", .methodLinkNest "NightHelp$Run" 48 ⟨"NightHelp$Best", "<init>", "()V"⟩ "NightHelp", .methodLinkNest "NightHelp" 68 ⟨"NightHelp$Left", "<init>", "()V"⟩ "NightHelp"]
def an_O (U : State) : Prop := va_AO "NightHelp$State" U ∧ ∀ w ∈ an_wn, va_Nw w U
theorem an_O.warm {s U : State} (hW : s.WarmedH U.vm) (h : an_O s) : an_O U := by
  refine ⟨va_AO.moved hW.alike h.1, fun w hw => ?_⟩
  have h1 := h.2 w hw
  simp only [an_wn, List.mem_cons, List.not_mem_nil, or_false] at hw
  rcases hw with rfl | rfl | rfl | rfl | rfl | rfl | rfl | rfl | rfl | rfl | rfl <;> exact va_Nw.warmM hW h1
theorem an_O.same {s U : State} (hv : s.vm = U.vm) (h : an_O s) : an_O U := by
  have ha : s.vm.Alike U.vm := by rw [hv]; exact Vm.Alike.refl _
  refine ⟨va_AO.moved ha h.1, fun w hw => ?_⟩
  have h1 := h.2 w hw
  simp only [an_wn, List.mem_cons, List.not_mem_nil, or_false] at hw
  rcases hw with rfl | rfl | rfl | rfl | rfl | rfl | rfl | rfl | rfl | rfl | rfl <;> exact va_Nw.same rfl hv h1
/-- the words that move, the classes, the String: what a constructor's start says but for its own cell -/
def an_B (D : va_G) (ka : Nat → ClassId) (sa : Nat × Nat) (A : Nat → Prop) (U : State) : Prop :=
  va_K D am_cl (am_tys ka) U ∧ (∀ w ∈ am_wn, va_Nw w U) ∧ am_str sa A U U.heap ∧ an_O U
def an_CP (M : am_M) (k d nc ns : Nat) (L : am_Y) (Z : am_H → Prop) : Prop :=
  ∀ (l : Launch) (D : va_G) (ka : Nat → ClassId) (sa : Nat × Nat) (h0 sz : Nat),
    Met l M.1 (.code M.1 M.2.1 M.2.2.1 M.2.2.2 :: am_ws) (an_rc d nc ns)
      (va_Pc [.ref h0] (fun U => U.heap.size = sz ∧ va_P D am_cl [(h0, .inr (k, an_f0 (am_fk k)))] U.heap ∧ an_B D ka sa (an_A h0 sz) U)) (an_QC D ka h0 sz L Z) nc ns (an_A h0 sz)
theorem va_RA.one {U : State} {cA cB : ClassId} {ty : FieldType} (h1 : va_RA U cA ty) (h2 : va_RA U cB ty) : cA = cB := by
  cases ty with
  | object C =>
    obtain ⟨k1, c1, -, -, -, e1⟩ := h1
    obtain ⟨k2, c2, -, -, -, e2⟩ := h2
    exact Option.some.inj (e1.symm.trans e2)
  | _ => exact Option.some.inj (Eq.trans (Eq.symm h1) h2)
theorem am_wn.alike {s U : State} (hW : s.WarmedH U.vm) (h : ∀ w ∈ am_wn, va_Nw w s) : ∀ w ∈ am_wn, va_Nw w U := am_wn.warm hW h
/-- the world of two lists, one after the other -/
theorem va_D.split {A : Nat → Prop} {w1 w2 : va_W} (h : va_D A (w1 ++ w2)) : va_D A w1 ∧ va_D A w2 ∧ ∀ (i j : Nat) (p q : Nat × va_E), w1[i]? = some p → w2[j]? = some q → p.1 ≠ q.1 := by
  have l1 : ∀ (i : Nat) (p : Nat × va_E), w1[i]? = some p → (w1 ++ w2)[i]? = some p := fun i p hp => by rw [List.getElem?_append_left (List.getElem?_eq_some_iff.mp hp).1, hp]
  have l2 : ∀ (j : Nat) (q : Nat × va_E), w2[j]? = some q → (w1 ++ w2)[w1.length + j]? = some q := fun j q hq => by rw [List.getElem?_append_right (by omega), Nat.add_sub_cancel_left, hq]
  refine ⟨⟨fun i j p q hp hq e => h.1 i j p q (l1 i p hp) (l1 j q hq) e, fun k q hq => h.2 k q (l1 k q hq)⟩, ⟨fun i j p q hp hq e => ?_, fun k q hq => h.2 _ q (l2 k q hq)⟩, fun i j p q hp hq e => ?_⟩
  · have := h.1 _ _ p q (l2 i p hp) (l2 j q hq) e
    omega
  · have := h.1 _ _ p q (l1 i p hp) (l2 j q hq) e
    have := (List.getElem?_eq_some_iff.mp hp).1
    omega
theorem va_P.split {D : va_G} {cl : List vw_C} {w1 w2 : va_W} {H : Heap} (h : va_P D cl (w1 ++ w2) H) : va_P D cl w1 H ∧ va_P D cl w2 H :=
  ⟨fun k q hk => h k q (by rw [List.getElem?_append_left (List.getElem?_eq_some_iff.mp hk).1, hk]), fun k q hk => h (w1.length + k) q (by rw [List.getElem?_append_right (by omega), Nat.add_sub_cancel_left, hk])⟩
section
variable {p : Program} {l : Launch} {e : Env} {R : Room} {s : State} {m : MethodId} {args : Array Value} {below : List Frame} {meth : Method} {c : Code} {G : am_G} {A : Nat → Prop} {M : am_M} {E : State → Prop} {r : Array Slot}
variable {cs ss pc : Nat} {pre : va_W} {Y : am_Y} {ad : Nat → Nat} {h : am_H} {st : List Value}
theorem an_Dal {h0 : Nat} {i : Fin 4} (hd : decode M.2.1 pc = .ok (.aload_n i, 1)) (hr : r[(i : Nat)]? = some (.val (.ref h0))) (k : an_D p l e R s m args below meth c G A M E r cs ss (pc + 1) pre Y ad h (.ref h0 :: st)) : an_D p l e R s m args below meth c G A M E r cs ss pc pre Y ad h st :=
  fun X hA H locs hP hD hS ho => lv_aload_n X.1 X.2.1 hd rfl hr (k X hA H locs hP hD hS ho)
theorem an_Dic {n : Int} (hd : decode M.2.1 pc = .ok (.iconst n, 1)) (k : an_D p l e R s m args below meth c G A M E r cs ss (pc + 1) pre Y ad h (.int (Int32.ofInt n) :: st)) : an_D p l e R s m args below meth c G A M E r cs ss pc pre Y ad h st :=
  fun X hA H locs hP hD hS ho => lv_iconst X.1 X.2.1 hd rfl (k X hA H locs hP hD hS ho)
theorem an_Dbi {n : Int} (hd : decode M.2.1 pc = .ok (.bipush n, 2)) (hn : -128 ≤ n ∧ n ≤ 127) (k : an_D p l e R s m args below meth c G A M E r cs ss (pc + 2) pre Y ad h (.int (Int32.ofInt n) :: st)) : an_D p l e R s m args below meth c G A M E r cs ss pc pre Y ad h st :=
  fun X hA H locs hP hD hS ho => lv_bipush X.1 X.2.1 hd (Int8.toInt32_ofInt hn.1 hn.2) (k X hA H locs hP hD hS ho)
theorem an_Dsi {n : Int} (hd : decode M.2.1 pc = .ok (.sipush n, 3)) (hn : -32768 ≤ n ∧ n ≤ 32767) (k : an_D p l e R s m args below meth c G A M E r cs ss (pc + 3) pre Y ad h (.int (Int32.ofInt n) :: st)) : an_D p l e R s m args below meth c G A M E r cs ss pc pre Y ad h st :=
  fun X hA H locs hP hD hS ho => lv_sipush X.1 X.2.1 hd (Int16.toInt32_ofInt hn.1 hn.2) (k X hA H locs hP hD hS ho)
theorem an_Dlc (hd : decode M.2.1 pc = .ok (.lconst 0, 1)) (k : an_D p l e R s m args below meth c G A M E r cs ss (pc + 1) pre Y ad h (.long 0 :: st)) : an_D p l e R s m args below meth c G A M E r cs ss pc pre Y ad h st :=
  fun X hA H locs hP hD hS ho => lv_lconst X.1 X.2.1 hd (v := 0) rfl (k X hA H locs hP hD hS ho)
theorem an_Ddup {v : Nat} (hd : decode M.2.1 pc = .ok (.dup, 1)) (k : an_D p l e R s m args below meth c G A M E r cs ss (pc + 1) pre Y ad h (.ref v :: .ref v :: st)) : an_D p l e R s m args below meth c G A M E r cs ss pc pre Y ad h (.ref v :: st) :=
  fun X hA H locs hP hD hS ho => lv_dup X.1 X.2.1 hd rfl (k X hA H locs hP hD hS ho)
theorem an_Dobj {idx v : Nat} (hd : decode M.2.1 pc = .ok (.invokespecial idx, 3)) (hl : Cond.methodLink M.1.cls idx Lib.objectInit ∈ am_ws) (h1 : Cond.instanceMethod Lib.objectInit ∈ am_ws) (h2 : Cond.code Lib.objectInit ⟨#[0xb1]⟩ 1 none ∈ am_ws) (hsz : r.size = M.2.2.1) (hf : 1 ≤ R.frames) (hlo : 20 ≤ R.locals) (hst : (st.map fun v => v.category).sum ≤ 8)
    (k : an_D p l e R s m args below meth c G A M E r cs ss (pc + 3) pre Y ad h st) : an_D p l e R s m args below meth c G A M E r cs ss pc pre Y ad h (.ref v :: st) := by
  intro X hA H locs hP hD hS ho
  have hW := X.2.2.2.2.2.2.1
  exact W.objInit X.1 X.2.1 X.2.2.2.2.1 (hW _ hl) (hW _ h1) (hW _ h2) rfl (hsz.trans X.2.2.1.symm) rfl hd hf (by show 2 * 0 + _ + 12 ≤ _; omega) (k X hA H locs hP hD hS ho)
/-- a new array of numbers -/
theorem an_Dna {n0 K n t0 : Nat} {nI : Int} {ty : FieldType} {atype : ArrayType} {a0 : vp_A} (hn0 : Y.length = n0) (hcl : an_clo Y = true) (hd : decode M.2.1 pc = .ok (.newarray atype, 2)) (hty : newarray.typeOf atype = ty) (harr : Cond.arrayClass ty ∈ am_ws) (ht : ∀ ka : Nat → ClassId, (am_tys ka)[t0]? = some (ka K, ty))
    (he : ∀ (q : Nat) (ka : Nat → ClassId), am_c (fun _ => q) ka [(K, n)] an_z = [(q, .inl (ka K, a0))]) (ha : ∀ cA : ClassId, vp_cell cA a0 = arrV cA n (fun _ => defaultValue ty)) (hneg : ¬ Int32.ofInt nI < 0) (hn : (Int32.ofInt nI).toNatClampNeg = n) (hby : n * componentBytes ty ≤ 536870912) (hc : cs + 1 ≤ R.cells) (hs2 : ss + n ≤ R.slots)
    (k : ∀ q, an_D p l e R s m args below meth c G A M E r (cs + 1) (ss + n) (pc + 2) pre (Y ++ [(K, n)]) (an_ap n0 ad (fun _ => q)) (an_ap n0 h an_z) (.ref q :: st)) : an_D p l e R s m args below meth c G A M E r cs ss pc pre Y ad h (.int (Int32.ofInt nI) :: st) := by
  intro X hA H locs hP hD hS ho
  have hK := X.2.2.2.2.2.2.2.2.1
  refine va_newa (atype := atype) X.1 X.2.1 (by rw [hty]; exact X.2.2.2.2.2.2.1 _ harr) hty hK hP hD hS hA ha hneg hn hby hc hs2 hd fun q cA H1 hK1 hP1 hD1 hS1 => ?_
  have e1 : cA = G.2.2.1 K := by
    have r1 := (hK.2 t0 _ (ht _)).2
    have r2 := (hK1.2 (am_tys G.2.2.1).length (cA, ty) (by rw [List.getElem?_append_right (Nat.le_refl _), Nat.sub_self]; rfl)).2
    exact va_RA.one r2 r1
  subst e1
  rw [List.append_assoc, ← he q G.2.2.1, ← an_c_app hn0 hcl] at hP1 hD1
  exact k q X hA H1 locs hP1 hD1 hS1 (an_ok_app hn0 ho an_ok_z)
/-- a field of the object that comes first -/
theorem an_Dpn {h0 k j t idx : Nat} {ref n dsc : String} {fs fs1 : List Value} {v : Value} {fty : FieldType} (hd : decode M.2.1 pc = .ok (.putfield idx, 3)) (hf : am_fo k j ref n dsc t false) (hl : Cond.fieldLink M.1.cls idx ref n dsc ∈ am_ws) (hty : parseFieldDescriptor dsc = some fty) (hn : narrow fty v = v) (hfit : fits fty v = true) (hj : j < fs.length) (hfs : fs.set j v = fs1)
    (kk : an_D p l e R s m args below meth c G A M E r cs ss (pc + 3) ((h0, .inr (k, fs1)) :: pre) Y ad h st) : an_D p l e R s m args below meth c G A M E r cs ss pc ((h0, .inr (k, fs)) :: pre) Y ad h (v :: .ref h0 :: st) := by
  subst hfs
  intro X hA H locs hP hD hS ho
  obtain ⟨C, T, N, ty, f1, f2, f3, f4, f5, f6, f7, f8, f9, -⟩ := hf
  exact va_put (T := T) (ref := ref) X.1 X.2.1 X.2.2.2.2.2.2.1 f7 ty f8 f9 X.2.2.2.2.1 X.2.2.2.2.2.2.2.2.1 hP hD hS 0 rfl f1 j f2 (by rw [f3]; exact X.2.2.2.2.2.2.1 _ hl) (fun x hx => by rw [f3] at hx ⊢; exact hx) (by rw [f3]) (by rw [f3]; exact hty) hn hfit hj hd fun H1 locs1 hP1 hD1 hS1 => kk X hA H1 locs1 hP1 hD1 hS1 ho
theorem an_Dpf {h0 k j t idx : Nat} {ref n dsc : String} {fs fs1 : List Value} {v : Value} {fty : FieldType} (hin : meth.name = "<init>") (hown : M.1.cls = ref) (hd : decode M.2.1 pc = .ok (.putfield idx, 3)) (hf : am_fo k j ref n dsc t true) (hl : Cond.fieldLink M.1.cls idx ref n dsc ∈ am_ws) (hty : parseFieldDescriptor dsc = some fty) (hn : narrow fty v = v) (hfit : fits fty v = true) (hj : j < fs.length) (hfs : fs.set j v = fs1)
    (kk : an_D p l e R s m args below meth c G A M E r cs ss (pc + 3) ((h0, .inr (k, fs1)) :: pre) Y ad h st) : an_D p l e R s m args below meth c G A M E r cs ss pc ((h0, .inr (k, fs)) :: pre) Y ad h (v :: .ref h0 :: st) := by
  subst hfs
  intro X hA H locs hP hD hS ho
  obtain ⟨C, T, N, ty, f1, f2, f3, f4, f5, f6, f7, f8, f9, -⟩ := hf
  exact va_putF (T := T) (ref := ref) X.1 X.2.1 X.2.2.2.2.2.2.1 f7 ty f8 f9 X.2.2.2.2.1 X.2.2.2.2.2.2.2.2.1 hP hD hS 0 rfl f1 j f2 (by rw [f3]; exact X.2.2.2.2.2.2.1 _ hl) (fun x hx => by rw [f3] at hx ⊢; exact hx) (by rw [f3]) hin (by rw [f3]; exact hown.symm) (by rw [f3]; exact hty) hn hfit hj hd fun H1 locs1 hP1 hD1 hS1 => kk X hA H1 locs1 hP1 hD1 hS1 ho
end
