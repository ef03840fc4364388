/-! rows: calls; a method's contract out of the walk of its body -/
theorem am_str.moved {sa : Nat × Nat} {A : Nat → Prop} {s U : State} {H H1 : Heap} (hW : s.WarmedH U.vm) (hk : ∀ a : Nat, a < H.size → ¬ A a → H1[a]? = H[a]?) (h : am_str sa A s H) : am_str sa A U H1 :=
  ⟨h.1.warm hW, (h.2.1.kept hk).moved hW.alike, (h.2.2.1.kept hk).moved hW.alike, (h.2.2.2.kept hk).moved hW.alike⟩
theorem am_wn.warm {s U : State} (hW : s.WarmedH U.vm) (h : ∀ w ∈ am_wn, va_Nw w s) : ∀ w ∈ am_wn, va_Nw w U := by
  intro w hw
  have h1 := h w hw
  simp only [am_wn, List.mem_cons, List.not_mem_nil, or_false] at hw
  rcases hw with rfl | rfl | rfl | rfl | rfl <;> exact va_Nw.warmM hW h1
theorem am_wn.same {s U : State} (hv : s.vm = U.vm) (h : ∀ w ∈ am_wn, va_Nw w s) : ∀ w ∈ am_wn, va_Nw w U := by
  intro w hw
  have h1 := h w hw
  simp only [am_wn, List.mem_cons, List.not_mem_nil, or_false] at hw
  rcases hw with rfl | rfl | rfl | rfl | rfl <;> exact va_Nw.same rfl hv h1
theorem am_str.same {sa : Nat × Nat} {A : Nat → Prop} {s U : State} {H : Heap} (hv : U.vm = s.vm) (h : am_str sa A s H) : am_str sa A U H := by
  have ha : s.vm.Alike U.vm := by rw [hv]; exact Vm.Alike.refl _
  exact ⟨h.1.same hv, h.2.1.moved ha, h.2.2.1.moved ha, h.2.2.2.moved ha⟩
/-- the world at another state that has the same heap -/
theorem am_W.at {G : am_G} {A : Nat → Prop} {Y : am_Y} {h : am_H} {s U : State} {H : Heap} {locs : List Loc} (hP : va_P G.1 am_cl (am_c G.2.1 G.2.2.1 Y h) H) (hK : va_K G.1 am_cl (am_tys G.2.2.1) s) (hn : ∀ w ∈ am_wn, va_Nw w s) (hs : am_str G.2.2.2 A s s.heap) (hS : va_S A s.heap H locs) (hU : U.heap = H) (hW : s.WarmedH U.vm) : am_W G A Y h U := by
  refine ⟨by rw [hU]; exact hP, va_K.moved hW.alike hK, am_wn.warm hW hn, ?_⟩
  rw [hU]
  exact hs.moved hW hS.2.1
theorem am_W.blind {G : am_G} {A : Nat → Prop} {Y : am_Y} {h : am_H} {av : List Value} : FrameBlind (va_Pc av (am_W G A Y h)) := by
  intro a U g mk ⟨hv, hP, hK, hn, hs⟩
  exact ⟨hv, hP, va_K.moved (u := U) (U := U.calling g mk a) (Vm.Alike.refl U.vm) hK, am_wn.same (s := U) (U := U.calling g mk a) rfl hn, am_str.same (s := U) (U := U.calling g mk a) rfl hs⟩
/-- the tables' words of a method that is called: of an object, of a class -/
def am_cv (M : am_M) (n : Nat) : Prop := Cond.code M.1 M.2.1 M.2.2.1 M.2.2.2 ∈ am_ws ∧ Cond.initialized M.1.cls ∈ am_ws ∧ Cond.instanceMethod M.1 ∈ am_ws ∧ Cond.selects M.1.cls M.1 M.1 ∈ am_ws ∧ (M.1.cls ≠ "java/lang/invoke/MethodHandle" ∧ M.1.cls ≠ "java/lang/invoke/VarHandle" ∧ (parseMethodDescriptor M.1.desc).map (fun d => d.parameters.length) = some n) ∧ M.2.2.1 ≤ 40
def am_cs_ (M : am_M) (n : Nat) : Prop := Cond.code M.1 M.2.1 M.2.2.1 M.2.2.2 ∈ am_ws ∧ Cond.initialized M.1.cls ∈ am_ws ∧ Cond.static M.1 ∈ am_ws ∧ (M.1.cls ≠ "java/lang/invoke/MethodHandle" ∧ M.1.cls ≠ "java/lang/invoke/VarHandle" ∧ (parseMethodDescriptor M.1.desc).map (fun d => d.parameters.length) = some n) ∧ M.2.2.1 ≤ 40
theorem am_gws {M : am_M} (h : Cond.code M.1 M.2.1 M.2.2.1 M.2.2.2 ∈ am_ws) : GoodIn am_ws (.code M.1 M.2.1 M.2.2.1 M.2.2.2 :: am_ws) := by
  intro w hw
  rcases List.mem_cons.mp hw with rfl | hw
  · exact am_ws_good _ h
  · exact am_ws_good _ hw
def am_rs (st : List am_V) : Nat := (st.map fun v => match v with | .inr (.inl _) => 2 | _ => 1).sum
theorem am_rs_eq {ad : Nat → Nat} (st : List am_V) : ((st.map (am_vv ad)).map fun v => v.category).sum = am_rs st := by
  induction st with
  | nil => rfl
  | cons v l ih =>
    simp only [List.map_cons, List.sum_cons, am_rs] at ih ⊢
    rw [ih]
    congr 1
    match v with
    | .inl x => rfl
    | .inr (.inl x) => rfl
    | .inr (.inr x) => rfl
section
variable {M M' : am_M} {d d' : Nat} {Y : am_Y} {pc : Nat} {ls : am_L} {st st0 : List am_V} {h : am_H} {Q Q' : Option am_V → am_H → Prop}
/-- behind a call -/
theorem am_behind {p : Program} {l : Launch} {e : Env} {s : State} {m : MethodId} {args : Array Value} {below : List Frame} {meth : Method} {c : Code} {G : am_G} {A : Nat → Prop} {H : Heap} {locs : List Loc} {r : Array Slot} {a : Array Value} {st1 : List Value}
    (hr : va_Run p l e (am_rm d) s m args below meth c H locs 0 0 0 0 (F0 m pc r st1) (st.map (am_vv G.2.1)) (am_Q G A Y Q' a) A) (hX : am_X M p s m args meth c G A) (hD : va_D A (am_c G.2.1 G.2.2.1 Y h)) (hS : va_S A s.heap H locs) (hll : am_ll ls) (hs : ∀ v ∈ st, am_rv v) (hlv : am_lv G.2.1 M.2.2.1 ls r)
    (kk : ∀ rv h1, Q' rv h1 → am_wp M d Y (pc + 3) ls (rv.toList ++ st) h1 Q) : W p l e (am_rm d) s m args below meth c H locs 0 0 (MQ below (am_Q G A Y Q) args s 0 0 A) (F0 m pc r st1) := by
  intro T hT X
  obtain ⟨v, st₀, t, T', L, h0, X', hL, e1, e2, ⟨⟨rv, h1, hv, hq, hok, hrv, hP1⟩, hz, hk⟩, stp⟩ := hr T hT X
  cases hv
  rw [h0] at hz hk
  have hS1 : va_S A s.heap T'.heap (locs ++ L) := ⟨Nat.le_trans hS.1 (by rw [e1]; exact hz), fun q h1 h2 => by rw [e1, hk q (Nat.lt_of_lt_of_le h1 hS.1) h2]; exact hS.2.1 q h1 h2, fun q hq => by
      rcases List.mem_append.mp hq with h | h
      · exact hS.2.2 q h
      · exact hL q h⟩
  have hD1 : va_D A (am_c G.2.1 G.2.2.1 Y h1) := by
    have key : ∀ (k : Nat) (q : Nat × va_E), (am_c G.2.1 G.2.2.1 Y h1)[k]? = some q → ∃ q0, (am_c G.2.1 G.2.2.1 Y h)[k]? = some q0 ∧ q0.1 = q.1 := by
      intro k q hq
      obtain ⟨y, hy, rfl⟩ := am_c_lt hq
      exact ⟨_, am_c_at hy, rfl⟩
    refine ⟨fun i j x y hi hj hxy => ?_, fun k q hq => ?_⟩
    · obtain ⟨x0, g1, g2⟩ := key i x hi
      obtain ⟨y0, g3, g4⟩ := key j y hj
      exact hD.1 i j x0 y0 g1 g3 (g2.trans (hxy.trans g4.symm))
    · obtain ⟨q0, g1, g2⟩ := key k q hq
      rw [← g2]
      exact hD.2 k q0 g1
  have hst : ∀ v ∈ rv.toList ++ st, am_rv v := fun v hv => by
    rcases List.mem_append.mp hv with h | h
    · exact hrv v (by cases rv with
        | none => simp at h
        | some w => simp at h; rw [h])
    · exact hs v h
  obtain ⟨t2, a1, b1⟩ := kk rv h1 hq p l e s m args below meth c G A T'.heap (locs ++ L) r hX (by rw [e1]; exact hP1) hD1 hS1 hok hll hst hlv T' rfl X'
  refine ⟨t2, stp t2 ?_, b1⟩
  have e3 : (rv.map (am_vv G.2.1)).toList ++ st.map (am_vv G.2.1) = (rv.toList ++ st).map (am_vv G.2.1) := by cases rv <;> simp
  show Steps p.tables e below (T'.setTop { method := m, pc := pc + 3, locals := r, stack := (rv.map (am_vv G.2.1)).toList ++ st.map (am_vv G.2.1), locked := none }) t2
  rw [e3]
  exact a1
theorem am_roomR {R : Room} (hR : R = am_rm d) (hdd : d' < d) {n : Nat} (hm : n ≤ 40) : (am_rm d').frames + 1 ≤ R.frames ∧ 8 + (n + 11) + (am_rm d').locals ≤ R.locals := by
  subst hR
  show d' + 1 ≤ d ∧ 8 + (n + 11) + 64 * d' ≤ 64 * d
  omega
theorem am_argmap {ad : Nat → Nat} {As : List am_V} : (As.map (am_vv ad)).reverse = (As.reverse).map (am_vv ad) := by simp
/-- a call of an object's method -/
theorem am_callV {o k nn idx n : Nat} {As : List am_V} (hd : decode M.2.1 pc = .ok (.invokevirtual idx, 3)) (hw : am_cv M' n) (hl : Cond.methodLink M.1.cls idx M'.1 ∈ am_ws) (hdd : d' < d) (hn : As.length = n) (hst : st0 = As.reverse ++ .inr (.inr o) :: st) (hrs : am_rs st ≤ 8)
    (hc : ∃ (T : u_T) (N : Nat), k < 13 ∧ am_cl[k]? = some (M'.1.cls, T, N)) (hY : Y[o]? = some (k, nn)) (hM : am_Met M' d' Y (.inr (.inr o) :: As) h Q')
    (kk : ∀ rv h1, Q' rv h1 → am_wp M d Y (pc + 3) ls (rv.toList ++ st) h1 Q) : am_wp M d Y pc ls st0 h Q := by
  subst hst
  intro p l e s m args below meth c G A H locs r X hP hD hS ho hll hs hr
  have hsz : r.size = c.maxLocals := hr.1.trans X.2.2.1.symm
  have hA : ∀ v ∈ (.inr (.inr o) :: As : List am_V), am_rv v := fun v hv => by
    rcases List.mem_cons.mp hv with rfl | hv
    · trivial
    · exact hs v (List.mem_append_left _ (List.mem_reverse.mpr hv))
  have hsr : ∀ v ∈ st, am_rv v := fun v hv => hs v (List.mem_append_right _ (List.mem_cons_of_mem _ hv))
  obtain ⟨T, N, hk, hc⟩ := hc
  have he := am_c_at (ad := G.2.1) (ka := G.2.2.1) (h := h) hY
  rw [am_e_o hk] at he
  have hMet := hM l G A hD ho hA
  have hW := X.2.2.2.2.2.2.1
  refine am_behind (a := ((Value.ref (G.2.1 o)) :: As.map (am_vv G.2.1)).toArray) (Q' := Q') (va_runV (As := As.map (am_vv G.2.1)) (b := G.2.1 o) (C := M'.1.cls) (own := M.1.cls) (nL := M.2.2.1) (Ts := am_ws) ⟨X.1, X.2.1, X.2.2.1, X.2.2.2.2.1, hW⟩ hMet
      ⟨callB_of n hW (am_gws hw.1) rfl rfl rfl (hW _ hw.2.1) (hW _ hl) hw.2.2.2.2.1 (am_roomR rfl hdd hw.2.2.2.2.2), hW _ hw.2.2.1, hW _ hw.2.2.2.1⟩
      ⟨am_W.blind, va_recv X.2.2.2.2.2.2.2.2.1 hP hc he, fun U hU hWU => ⟨rfl, am_W.at hP X.2.2.2.2.2.2.2.2.1 X.2.2.2.2.2.2.2.1 X.2.2.2.2.2.2.2.2.2 hS hU hWU⟩⟩ rfl (by simpa using hn) (hr.1) (by simp [am_vv]) (lv_room (by rw [am_rs_eq]; exact hrs)) hd ⟨Nat.le_refl _, Nat.le_refl _⟩) X hD hS hll hsr hr kk
/-- a call of a class's method -/
theorem am_callS {idx n : Nat} {As : List am_V} (hd : decode M.2.1 pc = .ok (.invokestatic idx, 3)) (hw : am_cs_ M' n) (hl : Cond.methodLink M.1.cls idx M'.1 ∈ am_ws) (hdd : d' < d) (hn : As.length = n) (hst : st0 = As.reverse ++ st) (hrs : am_rs st ≤ 8)
    (hM : am_Met M' d' Y As h Q')
    (kk : ∀ rv h1, Q' rv h1 → am_wp M d Y (pc + 3) ls (rv.toList ++ st) h1 Q) : am_wp M d Y pc ls st0 h Q := by
  subst hst
  intro p l e s m args below meth c G A H locs r X hP hD hS ho hll hs hr
  have hA : ∀ v ∈ As, am_rv v := fun v hv => hs v (List.mem_append_left _ (List.mem_reverse.mpr hv))
  have hsr : ∀ v ∈ st, am_rv v := fun v hv => hs v (List.mem_append_right _ hv)
  have hMet := hM l G A hD ho hA
  have hW := X.2.2.2.2.2.2.1
  refine am_behind (a := (As.map (am_vv G.2.1)).toArray) (Q' := Q') (va_runS (As := As.map (am_vv G.2.1)) (own := M.1.cls) (nL := M.2.2.1) (Ts := am_ws) ⟨X.1, X.2.1, X.2.2.1, X.2.2.2.2.1, hW⟩ hMet
      ⟨callB_of n hW (am_gws hw.1) rfl rfl rfl (hW _ hw.2.1) (hW _ hl) hw.2.2.2.1 (am_roomR rfl hdd hw.2.2.2.2), hW _ hw.2.2.1⟩
      ⟨am_W.blind, fun U hU hWU => ⟨rfl, am_W.at hP X.2.2.2.2.2.2.2.2.1 X.2.2.2.2.2.2.2.1 X.2.2.2.2.2.2.2.2.2 hS hU hWU⟩⟩ rfl (by simpa using hn) (hr.1) (by simp [am_vv]) (lv_room (by rw [am_rs_eq]; exact hrs)) hd ⟨Nat.le_refl _, Nat.le_refl _⟩) X hD hS hll hsr hr kk
/-- a call of a nest mate's private method of a class -/
theorem am_callSN {idx n : Nat} {As : List am_V} (hd : decode M.2.1 pc = .ok (.invokestatic idx, 3)) (hw : am_cs_ M' n) (hl : Cond.methodLinkNest M.1.cls idx M'.1 "NightHelp" ∈ am_wn) (hdd : d' < d) (hn : As.length = n) (hst : st0 = As.reverse ++ st) (hrs : am_rs st ≤ 8)
    (hM : am_Met M' d' Y As h Q')
    (kk : ∀ rv h1, Q' rv h1 → am_wp M d Y (pc + 3) ls (rv.toList ++ st) h1 Q) : am_wp M d Y pc ls st0 h Q := by
  subst hst
  intro p l e s m args below meth c G A H locs r X hP hD hS ho hll hs hr
  have hA : ∀ v ∈ As, am_rv v := fun v hv => hs v (List.mem_append_left _ (List.mem_reverse.mpr hv))
  have hsr : ∀ v ∈ st, am_rv v := fun v hv => hs v (List.mem_append_right _ hv)
  have hMet := hM l G A hD ho hA
  have hW := X.2.2.2.2.2.2.1
  refine am_behind (a := (As.map (am_vv G.2.1)).toArray) (Q' := Q') (va_runSN (As := As.map (am_vv G.2.1)) (own := M.1.cls) (host := "NightHelp") (nL := M.2.2.1) (Ts := am_ws) ⟨X.1, X.2.1, X.2.2.1, X.2.2.2.2.1, hW⟩ hMet
      ⟨va_cnB n hW (am_gws hw.1) rfl rfl rfl (X.2.2.2.2.2.2.2.1 _ hl) (hW _ hw.2.1) hw.2.2.2.1 (am_roomR rfl hdd hw.2.2.2.2), hW _ hw.2.2.1, trivial⟩
      ⟨am_W.blind, fun U hU hWU => ⟨rfl, am_W.at hP X.2.2.2.2.2.2.2.2.1 X.2.2.2.2.2.2.2.1 X.2.2.2.2.2.2.2.2.2 hS hU hWU⟩⟩ rfl (by simpa using hn) (hr.1) (by simp [am_vv]) (lv_room (by rw [am_rs_eq]; exact hrs)) hd ⟨Nat.le_refl _, Nat.le_refl _⟩) X hD hS hll hsr hr kk
/-- the locals with which a method begins -/
def am_en : List am_V → am_L
  | [] => []
  | .inr (.inl x) :: l => some (.inr (.inl x)) :: none :: am_en l
  | v :: l => some v :: am_en l
theorem am_en_at (ad : Nat → Nat) : ∀ (av : List am_V) (i : Nat) (v : am_V) (b : Nat), (am_en av)[i]? = some (some v) → v ∈ av ∧ (b + i, am_vv ad v) ∈ lv_args b (av.map (am_vv ad))
  | [], i, v, b, h => by simp [am_en] at h
  | .inl x :: l, 0, v, b, h => by
    simp [am_en] at h
    subst h
    exact ⟨List.mem_cons_self, by simp [lv_args]⟩
  | .inl x :: l, i + 1, v, b, h => by
    have h1 := am_en_at ad l i v (b + 1) (by simpa [am_en] using h)
    refine ⟨List.mem_cons_of_mem _ h1.1, ?_⟩
    simp only [List.map_cons, lv_args]
    refine List.mem_cons_of_mem _ ?_
    have e1 : (am_vv ad (.inl x)).category = 1 := rfl
    rw [e1, if_neg (by decide)]
    rw [show b + (i + 1) = b + 1 + i by omega]
    exact h1.2
  | .inr (.inr x) :: l, 0, v, b, h => by
    simp [am_en] at h
    subst h
    exact ⟨List.mem_cons_self, by simp [lv_args]⟩
  | .inr (.inr x) :: l, i + 1, v, b, h => by
    have h1 := am_en_at ad l i v (b + 1) (by simpa [am_en] using h)
    refine ⟨List.mem_cons_of_mem _ h1.1, ?_⟩
    simp only [List.map_cons, lv_args]
    refine List.mem_cons_of_mem _ ?_
    have e1 : (am_vv ad (.inr (.inr x))).category = 1 := rfl
    rw [e1, if_neg (by decide)]
    rw [show b + (i + 1) = b + 1 + i by omega]
    exact h1.2
  | .inr (.inl x) :: l, 0, v, b, h => by
    simp [am_en] at h
    subst h
    exact ⟨List.mem_cons_self, by simp [lv_args]⟩
  | .inr (.inl x) :: l, 1, v, b, h => by simp [am_en] at h
  | .inr (.inl x) :: l, i + 2, v, b, h => by
    have h1 := am_en_at ad l i v (b + 2) (by simpa [am_en] using h)
    refine ⟨List.mem_cons_of_mem _ h1.1, ?_⟩
    simp only [List.map_cons, lv_args]
    refine List.mem_cons_of_mem _ ?_
    have e1 : (am_vv ad (.inr (.inl x))).category = 2 := rfl
    rw [e1, if_pos rfl]
    rw [show b + (i + 2) = b + 2 + i by omega]
    exact h1.2
theorem am_en_len (ad : Nat → Nat) : ∀ (av : List am_V), (lg_sl (av.map (am_vv ad))).length = (am_en av).length
  | [] => rfl
  | .inl x :: l => by
    have e : lg_sl ((.inl x :: l : List am_V).map (am_vv ad)) = [Slot.val (.int (Int32.ofInt x))] ++ lg_sl (l.map (am_vv ad)) := rfl
    rw [e, List.length_append, am_en_len ad l]
    simp [am_en]
    omega
  | .inr (.inr x) :: l => by
    have e : lg_sl ((.inr (.inr x) :: l : List am_V).map (am_vv ad)) = [Slot.val (.ref (ad x))] ++ lg_sl (l.map (am_vv ad)) := rfl
    rw [e, List.length_append, am_en_len ad l]
    simp [am_en]
    omega
  | .inr (.inl x) :: l => by
    have e : lg_sl ((.inr (.inl x) :: l : List am_V).map (am_vv ad)) = [Slot.val (.long (Int64.ofInt x)), Slot.second] ++ lg_sl (l.map (am_vv ad)) := rfl
    rw [e, List.length_append, am_en_len ad l]
    simp [am_en]
    omega
/-- a contract out of the walk of the body -/
theorem am_Met.of {av : List am_V} {ls : am_L} (hpl : plainName M.1.cls = true) (hls : am_en av ++ List.replicate (M.2.2.1 - (am_en av).length) none = ls) (hle : (am_en av).length ≤ M.2.2.1) (k : am_wp M d Y 0 ls [] h Q) : am_Met M d Y av h Q := by
  subst hls
  intro l G A hD hok hav
  refine Met.ofW (cc := M.2.1) (maxL := M.2.2.1) (ret := M.2.2.2) hpl rfl ?_
  intro p e s m args below meth c s₁ B hml hv
  obtain ⟨rfl, hP, hK, hn, hstr⟩ := hv
  have hts := atoms_spec (ws := .code M.1 M.2.1 M.2.2.1 M.2.2.2 :: am_ws) B.pre
  have X : am_X M p s m (av.map (am_vv G.2.1)).toArray meth c G A := ⟨B.exec, B.bytes, hml, B.returns, findClass_of_methodNamed B.named, B.notSynchronized, fun w hw => hts w (List.mem_cons_of_mem _ hw), hn, hK, hstr⟩
  have hl := lv_entry (av.map (am_vv G.2.1)) (n := M.2.2.1) (by rw [am_en_len]; exact hle)
  rw [lg_entry_eq]
  generalize (lg_sl (av.map (am_vv G.2.1)) ++ List.replicate (M.2.2.1 - (lg_sl (av.map (am_vv G.2.1))).length) Slot.unset).toArray = r at hl ⊢
  have hpre : ∀ (i : Nat) (v : am_V), (am_en av ++ List.replicate (M.2.2.1 - (am_en av).length) none)[i]? = some (some v) → (am_en av)[i]? = some (some v) := by
    intro i v hv
    by_cases hi : i < (am_en av).length
    · rwa [List.getElem?_append_left hi] at hv
    · rw [List.getElem?_append_right (by omega)] at hv
      have := List.getElem?_eq_some_iff.mp hv
      obtain ⟨h1, h2⟩ := this
      simp at h2
  exact k p l e s m _ below meth c G A s.heap [] r X hP hD va_S.rf hok (fun i v hv => hav v (am_en_at G.2.1 av i v 0 (hpre i v hv)).1) (fun v hv => by simp at hv) ⟨hl.1, hl.2.1, fun i v hv => by
    have h1 := hl.2.2 _ (am_en_at G.2.1 av i v 0 (hpre i v hv)).2
    simpa using h1⟩
theorem am_Met.mono {av : List am_V} (k : am_Met M d Y av h Q) (hQ : ∀ r h', am_ok Y h' → (∀ v, r = some v → am_rv v) → Q r h' → Q' r h') : am_Met M d Y av h Q' := by
  intro l G A hD hok hav p e ha hc hk s m args below hf hfit hP hPc
  obtain ⟨n, o, h1, h2, h3, ⟨⟨r', h', c1, c2, c3, c4, c5⟩, c6⟩, h5⟩ := k l G A hD hok hav p e ha hc hk s m args below hf hfit hP hPc
  exact ⟨n, o, h1, h2, h3, ⟨⟨r', h', c1, hQ _ _ c3 c4 c2, c3, c4, c5⟩, c6⟩, h5⟩
/-- what holds of every start of a contract may be used -/
theorem am_Met.rg {av : List am_V} (k : am_ok Y h → (∀ v ∈ av, am_rv v) → am_Met M d Y av h Q) : am_Met M d Y av h Q :=
  fun l G A hD hok hav => k hok hav l G A hD hok hav
end
