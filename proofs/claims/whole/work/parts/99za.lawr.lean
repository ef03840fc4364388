/-! the law's own rows: its script, its helpers, the world that it makes -/
def lw_Y : am_Y := am_L11 ++ (am_L12 ++ [(15, 1)])
theorem lw_l11 : am_L11.length = 148 := by decide +kernel
theorem lw_hY : am_at lw_Y 0 am_L11 := fun i y hy => by
  rw [Nat.zero_add]
  unfold lw_Y
  rw [List.getElem?_append_left (List.getElem?_eq_some_iff.mp hy).1, hy]
theorem lw_hM : am_at lw_Y 148 am_L12 := fun i y hy => by
  unfold lw_Y
  rw [List.getElem?_append_right (by rw [lw_l11]; omega), lw_l11, Nat.add_sub_cancel_left, List.getElem?_append_left (List.getElem?_eq_some_iff.mp hy).1, hy]
theorem lw_hO : lw_Y[179]? = some (15, 1) := by decide +kernel
def lw_C (s : State) (A : Nat → Prop) (G : am_G) (b L : Nat) (xs : Nat → Int32) : Prop := va_X b L xs s s.heap ∧ b < s.heap.size ∧ ¬ A b ∧ G.2.1 180 = b ∧ L ≤ 3072
def lw_sx (xs : Nat → Int32) (i j : Int) : Int := (xs (i + j).toNat).toInt
abbrev lw_ls (i : Int) : am_L := [some (.inr (.inr 180)), some (.inr (.inr 0)), some (.inr (.inr 148)), some (.inr (.inr 179)), some (.inl i), none, none, none]
theorem lw_c0 {cs : Nat} (h : cs ≤ 600000) : cs ≤ room_1.cells := Nat.le_trans h (show 600000 ≤ 601024 by omega)
theorem lw_c1 {cs : Nat} (h : cs ≤ 600000) : cs + 1 ≤ room_1.cells := Nat.le_trans (Nat.succ_le_succ h) (show 600001 ≤ 601024 by omega)
theorem lw_s0 {ss : Nat} (h : ss ≤ 7000000) : ss ≤ room_1.slots := Nat.le_trans h (show 7000000 ≤ 7293034 by omega)
theorem lw_s6 {ss : Nat} (h : ss ≤ 7000000) : ss + 6 ≤ room_1.slots := Nat.le_trans (Nat.add_le_add_right h 6) (show 7000006 ≤ 7293034 by omega)
section
variable {p : Program} {l : Launch} {e : Env} {R : Room} {s : State} {m : MethodId} {args : Array Value} {below : List Frame} {meth : Method} {c : Code} {G : am_G} {A : Nat → Prop} {cs ss : Nat} {E : State → Prop}
variable {M M' : am_M} {d d' : Nat} {Y : am_Y} {pc : Nat} {ls : am_L} {st st0 : List am_V} {h : am_H} {Q' : Option am_V → am_H → Prop} {b L : Nat} {xs : Nat → Int32}
theorem an_slen (C : lw_C s A G b L xs) (hd : decode M.2.1 pc = .ok (.arraylength, 1)) (kk : an_W p l e R s m args below meth c G A cs ss E M Y (pc + 1) ls (.inl (L : Int) :: st) h) : an_W p l e R s m args below meth c G A cs ss E M Y pc ls (.inr (.inr 180) :: st) h := by
  obtain ⟨hX, hbl, hbA, rfl, hLm⟩ := C
  intro X H locs r hP hD hS ho hll hs hr
  refine va_slen X.1 X.2.1 hX hbl hbA hS hd ?_
  exact kk X H locs r hP hD hS ho hll (am_cs (show am_ri (L : Int) from ⟨by omega, by omega⟩) (am_tl hs)) hr
theorem an_sld {i : Int} (C : lw_C s A G b L xs) (hd : decode M.2.1 pc = .ok (.iaload, 1)) (hi : 0 ≤ i ∧ i < L) (kk : an_W p l e R s m args below meth c G A cs ss E M Y (pc + 1) ls (.inl (xs i.toNat).toInt :: st) h) : an_W p l e R s m args below meth c G A cs ss E M Y pc ls (.inl i :: .inr (.inr 180) :: st) h := by
  obtain ⟨hX, hbl, hbA, rfl, hLm⟩ := C
  intro X H locs r hP hD hS ho hll hs hr
  have hir : am_ri i := am_hd hs
  refine va_sld X.1 X.2.1 hX hbl hbA hS (am_in hir hi.1 hi.2) hd ?_
  rw [am_cn hir]
  have k := kk X H locs r hP hD hS ho hll (am_cs (am_ir (xs i.toNat)) (am_tl (am_tl hs))) hr
  simp only [List.map_cons, am_vv, Int32.ofInt_toInt] at k
  exact k
theorem an_arg {i j : Int} (C : lw_C s A G b L xs) (h0 : ls[0]? = some (some (.inr (.inr 180)))) (h4 : ls[4]? = some (some (.inl i))) (hj : 0 ≤ j ∧ j ≤ 5) (hi : 0 ≤ i ∧ i + 6 ≤ L) (d0 : decode M.2.1 pc = .ok (.aload_n 0, 1)) (d1 : decode M.2.1 (pc + 1) = .ok (.iload 4, 2)) (d3 : decode M.2.1 (pc + 3) = .ok (.iconst j, 1)) (d4 : decode M.2.1 (pc + 4) = .ok (.iadd, 1)) (d5 : decode M.2.1 (pc + 5) = .ok (.iaload, 1))
    (kk : an_W p l e R s m args below meth c G A cs ss E M Y (pc + 6) ls (.inl (lw_sx xs i j) :: st) h) : an_W p l e R s m args below meth c G A cs ss E M Y pc ls st h := by
  have hLm := C.2.2.2.2
  refine an_aload_n d0 h0 ?_
  refine an_iload d1 h4 ?_
  refine an_iconst d3 ⟨by omega, by omega⟩ ?_
  refine an_iadd d4 ⟨by omega, by omega⟩ ?_
  exact an_sld C d5 ⟨by omega, by omega⟩ kk
theorem an_behindN {H : Heap} {locs : List Loc} {r : Array Slot} {a : Array Value} {st1 : List Value} {mc ms : Nat}
    (hr : va_Run p l e R s m args below meth c H locs cs ss mc ms (F0 m pc r st1) (st.map (am_vv G.2.1)) (am_Q G A Y Q' a) A) (hX : am_X M p s m args meth c G A) (hD : va_D A (am_c G.2.1 G.2.2.1 Y h)) (hS : va_S A s.heap H locs) (hll : am_ll ls) (hs : ∀ v ∈ st, am_rv v) (hlv : am_lv G.2.1 M.2.2.1 ls r)
    (kk : ∀ rv h1, Q' rv h1 → an_W p l e R s m args below meth c G A (cs + mc) (ss + ms) E M Y (pc + 3) ls (rv.toList ++ st) h1) : W p l e R s m args below meth c H locs cs ss E (F0 m pc r st1) := by
  intro T hT X
  obtain ⟨v, st₀, t, T', L, h0, X', hL, e1, e2, ⟨⟨rv, h1, hv, hq, hok, hrv, hP1⟩, hz, hk⟩, stp⟩ := hr T hT X
  cases hv
  rw [h0] at hz hk
  have hS1 : va_S A s.heap T'.heap (locs ++ L) := ⟨Nat.le_trans hS.1 (by rw [e1]; exact hz), fun q h1 h2 => by rw [e1, hk q (Nat.lt_of_lt_of_le h1 hS.1) h2]; exact hS.2.1 q h1 h2, fun q hq => by
      rcases List.mem_append.mp hq with h | h
      · exact hS.2.2 q h
      · exact hL q h⟩
  have hst : ∀ v ∈ rv.toList ++ st, am_rv v := fun v hv => by
    rcases List.mem_append.mp hv with h | h
    · exact hrv v (by cases rv with
        | none => simp at h
        | some w => simp at h; rw [h])
    · exact hs v h
  obtain ⟨t2, a1, b1⟩ := kk rv h1 hq hX T'.heap (locs ++ L) r (by rw [e1]; exact hP1) (am_D_of hD) hS1 hok hll hst hlv T' rfl X'
  refine ⟨t2, stp t2 ?_, b1⟩
  have e3 : (rv.map (am_vv G.2.1)).toList ++ st.map (am_vv G.2.1) = (rv.toList ++ st).map (am_vv G.2.1) := by cases rv <;> simp
  show Steps p.tables e below (T'.setTop { method := m, pc := pc + 3, locals := r, stack := (rv.map (am_vv G.2.1)).toList ++ st.map (am_vv G.2.1), locked := none }) t2
  rw [e3]
  exact a1
/-- the words of one of the law's helpers -/
def am_cw (M : am_M) (hh : List (Nat × Nat × Nat × Nat)) (n : Nat) : Prop := Cond.codeWith M.1 M.2.1 M.2.2.1 M.2.2.2 hh ∈ am_ws ∧ Cond.initialized M.1.cls ∈ am_ws ∧ Cond.static M.1 ∈ am_ws ∧ (M.1.cls ≠ "java/lang/invoke/MethodHandle" ∧ M.1.cls ≠ "java/lang/invoke/VarHandle" ∧ (parseMethodDescriptor M.1.desc).map (fun d => d.parameters.length) = some n) ∧ M.2.2.1 ≤ 40
theorem an_callLM {idx n : Nat} {hh : List (Nat × Nat × Nat × Nat)} {As : List am_V} (hl0 : l.stackTraces = false) (hZ : an_ZZ A s s.heap) (hd : decode M.2.1 pc = .ok (.invokestatic idx, 3)) (hw : am_cw M' hh n) (hl : Cond.methodLink M.1.cls idx M'.1 ∈ am_ws) (hrf : d' + 1 ≤ R.frames) (hrl : 59 + 64 * d' ≤ R.locals) (hcs : cs + 1 ≤ R.cells) (hss : ss + 6 ≤ R.slots) (hn : As.length = n) (hst : st0 = As.reverse ++ st) (hrs : am_rs st ≤ 8)
    (hM : an_LM M' hh d' Y As h Q') (kk : ∀ rv h1, Q' rv h1 → an_W p l e R s m args below meth c G A (cs + 1) (ss + 6) E M Y (pc + 3) ls (rv.toList ++ st) h1) : an_W p l e R s m args below meth c G A cs ss E M Y pc ls st0 h := by
  subst hst
  intro X H locs r hP hD hS ho hll hs hr
  have hA : ∀ v ∈ As, am_rv v := fun v hv => hs v (List.mem_append_left _ (List.mem_reverse.mpr hv))
  have hsr : ∀ v ∈ st, am_rv v := fun v hv => hs v (List.mem_append_right _ hv)
  have hMet := hM l G A hl0 hD ho hA
  have hW := X.2.2.2.2.2.2.1
  have hG : GoodIn am_ws (va_wsS M.1.cls idx M'.1 (.codeWith M'.1 M'.2.1 M'.2.2.1 M'.2.2.2 hh :: am_ws)) := by
    intro w hw1
    unfold va_wsS at hw1
    rcases List.mem_append.mp hw1 with q | q
    · simp only [List.mem_cons, List.not_mem_nil, or_false] at q
      rcases q with rfl | rfl | rfl
      · exact am_ws_good _ hl
      · exact am_ws_good _ hw.2.2.1
      · exact am_ws_good _ hw.2.1
    · rcases List.mem_cons.mp q with rfl | q
      · exact am_ws_good _ hw.1
      · exact am_ws_good _ q
  refine an_behindN (a := (As.map (am_vv G.2.1)).toArray) (Q' := Q') (mc := 1) (ms := 6) (vx_runSW (As := As.map (am_vv G.2.1)) (own := M.1.cls) (nL := M.2.2.1) (Ts := am_ws) (n := n) ⟨X.1, X.2.1, X.2.2.1, X.2.2.2.2.1, hW⟩ hMet
      (vx_cwSW n hW hG rfl rfl rfl hw.2.2.2.1 ⟨hrf, by have := hw.2.2.2.2; show 8 + (M'.2.2.1 + 11) + 64 * d' ≤ R.locals; omega⟩)
      ⟨an_Wx.blind, fun U hU hWU => ⟨rfl, am_W.at hP X.2.2.2.2.2.2.2.2.1 X.2.2.2.2.2.2.2.1 X.2.2.2.2.2.2.2.2.2 hS hU hWU, hZ.at hS hU hWU⟩⟩ rfl (by simpa using hn) hr.1 (by simp [am_vv]) (lv_room (by rw [am_rs_eq]; exact hrs)) hd ⟨hcs, hss⟩) X hD hS hll hsr hr kk
end
section
variable {p : Program} {l : Launch} {e : Env} {R : Room} {s : State} {m : MethodId} {args : Array Value} {below : List Frame} {meth : Method} {c : Code} {G : am_G} {A : Nat → Prop} {M : am_M} {E : State → Prop} {r : Array Slot}
variable {cs ss pc : Nat} {pre : va_W} {Y : am_Y} {ad : Nat → Nat} {h : am_H} {st : List Value}
theorem an_Dasn {i : Fin 4} {v nL : Nat} {lv lv' : List (Nat × Value)} (hd : decode M.2.1 pc = .ok (.astore_n i, 1)) (hv : lv_has r nL lv) (hn : (i : Nat) < nL) (hl : ((i : Nat), Value.ref v) :: lv.filter (fun q => !(q.1 == (i : Nat)) && !(q.1 + 1 == (i : Nat) && q.2.category == 2)) = lv')
    (k : ∀ r1, lv_has r1 nL lv' → an_D p l e R s m args below meth c G A M E r1 cs ss (pc + 1) pre Y ad h st) : an_D p l e R s m args below meth c G A M E r cs ss pc pre Y ad h (.ref v :: st) :=
  fun X hA H locs hP hD hS ho => lv_astore_n X.1 X.2.1 hd rfl hv hn hl (fun r1 hr1 => k r1 hr1 X hA H locs hP hD hS ho)
theorem an_Dis {i nL : Nat} {v : Int32} {lv lv' : List (Nat × Value)} (hd : decode M.2.1 pc = .ok (.istore i, 2)) (hv : lv_has r nL lv) (hn : i < nL) (hl : (i, Value.int v) :: lv.filter (fun q => !(q.1 == i) && !(q.1 + 1 == i && q.2.category == 2)) = lv')
    (k : ∀ r1, lv_has r1 nL lv' → an_D p l e R s m args below meth c G A M E r1 cs ss (pc + 2) pre Y ad h st) : an_D p l e R s m args below meth c G A M E r cs ss pc pre Y ad h (.int v :: st) :=
  fun X hA H locs hP hD hS ho => lv_istore X.1 X.2.1 hd hv hn hl (fun r1 hr1 => k r1 hr1 X hA H locs hP hD hS ho)
/-- what has been made stands in front, and a new world begins behind it -/
theorem an_Dpre {ad' : Nat → Nat} {h' : am_H} (k : am_ok Y h → an_D p l e R s m args below meth c G A M E r cs ss pc (am_c ad G.2.2.1 Y h) [] ad' h' st) : an_D p l e R s m args below meth c G A M E r cs ss pc [] Y ad h st := by
  intro X hA H locs hP hD hS ho
  have e : am_c ad G.2.2.1 Y h ++ am_c ad' G.2.2.1 [] h' = [] ++ am_c ad G.2.2.1 Y h := by rw [show am_c ad' G.2.2.1 [] h' = [] from rfl, List.append_nil, List.nil_append]
  exact k ho X hA H locs (by rw [e]; exact hP) (by rw [e]; exact hD) hS (fun _ _ hy => by simp at hy)
def an_clq (Y : am_Y) : Bool := (List.range Y.length).all fun o => if (Y.getD o (0, 0)).1 < 13 then (am_fk (Y.getD o (0, 0)).1).all (fun f => Nat.blt f 3 || Nat.blt (o + (f - 3)) Y.length) else (!((Y.getD o (0, 0)).1 == 17) || Nat.blt (o + 1 + 24 * ((Y.getD o (0, 0)).2 - 1)) Y.length)
theorem an_clq_at {Y : am_Y} (h : an_clq Y = true) {o : Nat} {y : Nat × Nat} (hy : Y[o]? = some y) : (y.1 < 13 → ∀ f ∈ am_fk y.1, f < 3 ∨ o + (f - 3) < Y.length) ∧ (y.1 = 17 → o + 1 + 24 * (y.2 - 1) < Y.length) := by
  obtain ⟨hl, e⟩ := List.getElem?_eq_some_iff.mp hy
  have h1 := List.all_eq_true.mp h o (List.mem_range.mpr hl)
  have e1 : Y.getD o (0, 0) = y := by rw [List.getD_eq_getElem?_getD, hy]; rfl
  rw [e1] at h1
  by_cases k : y.1 < 13
  · rw [if_pos k] at h1
    refine ⟨fun _ f hf => ?_, fun z => absurd k (by rw [z]; decide)⟩
    have h2 := List.all_eq_true.mp h1 f hf
    simp only [Bool.or_eq_true, Nat.blt_eq] at h2
    exact h2
  · rw [if_neg k] at h1
    refine ⟨fun z => absurd z k, fun z => ?_⟩
    simp only [z, Bool.or_eq_true, Nat.blt_eq, beq_self_eq_true, Bool.not_true, Bool.false_eq_true, false_or] at h1
    exact h1
theorem an_P_agree {D : va_G} {ka : Nat → ClassId} {ad1 ad2 : Nat → Nat} {h1 h2 : am_H} {H : Heap} (hc : an_clq Y = true) (ha : ∀ o, o < Y.length → ad2 o = ad1 o) (hh : ∀ o, o < Y.length → h2 o = h1 o) (P : va_P D am_cl (am_c ad1 ka Y h1) H) : va_P D am_cl (am_c ad2 ka Y h2) H := by
  intro k q hk
  obtain ⟨y, hy, rfl⟩ := am_c_lt hk
  have hl := (List.getElem?_eq_some_iff.mp hy).1
  have z := P k _ (am_c_at hy)
  obtain ⟨c1, c2⟩ := an_clq_at hc hy
  rw [ha k hl]
  by_cases k7 : y.1 = 17
  · obtain ⟨y1, n⟩ := y
    dsimp only at k7 c2
    subst k7
    have c3 := c2 rfl
    rw [am_e17] at z ⊢
    have ce : ∀ f g : Nat → Option Nat, (∀ j, j < n → f j = g j) → vp_cell (ka 17) (n, .inr (.inr (.inr (.inr f)))) = vp_cell (ka 17) (n, .inr (.inr (.inr (.inr g)))) := by
      intro f g e
      rw [vp_cell_q, vp_cell_q]
      unfold arrV
      congr 1
      congr 1
      funext j
      show va_rf (f j.val) = va_rf (g j.val)
      rw [e _ j.isLt]
    have z' : H[ad1 k]? = some (vp_cell (ka 17) (n, .inr (.inr (.inr (.inr fun j => some (ad1 (k + 1 + 24 * j))))))) := z
    show H[ad1 k]? = some (vp_cell (ka 17) (n, .inr (.inr (.inr (.inr fun j => some (ad2 (k + 1 + 24 * j)))))))
    rw [z']
    congr 1
    exact ce _ _ fun j hj => by rw [ha (k + 1 + 24 * j) (by omega)]
  · rw [an_e_c (ad := ad1) (h := h1) (o := k) (hh k hl) (fun z13 f hf => (c1 z13 f hf).imp id fun q => ha _ q) (fun z => absurd z k7)]
    exact z
theorem am_c_fst {ka : Nat → ClassId} : (am_c ad ka Y h).map Prod.fst = (List.range Y.length).map ad := by
  unfold am_c
  rw [List.map_map]
  rfl
/-- the law's world: what stands in front, and the rest, as one; behind it, the script -/
theorem an_DWp {Y1 : am_Y} {ad1 : Nat → Nat} {h1 : am_H} {n1 n2 : Nat} {ls : am_L} {st' : List am_V} (hn1 : Y1.length = n1) (hn2 : Y.length = n2) (cl1 : an_clq Y1 = true) (cl2 : an_clq Y = true) (ok1 : am_ok Y1 h1) (adF : Nat → Nat) (hF1 : ∀ o, o < n1 → adF o = ad1 o) (hF2 : ∀ o, o < n2 → adF (n1 + o) = ad o) (hst : st = st'.map (am_vv adF)) (hll : am_ll ls) (hs : ∀ v ∈ st', am_rv v) (hr : am_lv adF M.2.2.1 ls r)
    (k : an_W p l e R s m args below meth c (G.1, adF, G.2.2.1, G.2.2.2) A cs ss E M (Y1 ++ Y) pc ls st' (an_ap n1 h1 h)) : an_D p l e R s m args below meth c G A M E r cs ss pc (am_c ad1 G.2.2.1 Y1 h1) Y ad h st := by
  subst hst
  subst hn1
  subst hn2
  intro X hA H locs hP hD hS ho
  obtain ⟨p1, p2⟩ := va_P.split hP
  have e := an_c_sp (ad := adF) (ka := G.2.2.1) (Y1 := Y1) (Y2 := Y) (h := an_ap Y1.length h1 h) (n := Y1.length) rfl
  refine k X H locs r ?_ ?_ hS (an_ok_app rfl ok1 ho) hll hs hr
  · show va_P G.1 am_cl (am_c adF G.2.2.1 (Y1 ++ Y) (an_ap Y1.length h1 h)) H
    rw [e]
    exact va_P.app (an_P_agree cl1 hF1 (fun o ho => an_ap_lt ho) p1) (an_P_agree cl2 hF2 (fun o ho => an_ap_r) p2)
  · show va_D A (am_c adF G.2.2.1 (Y1 ++ Y) (an_ap Y1.length h1 h))
    rw [e]
    refine hD.addr ?_
    rw [List.map_append, List.map_append, am_c_fst, am_c_fst, am_c_fst, am_c_fst]
    congr 1
    · exact List.map_congr_left fun o ho => hF1 o (List.mem_range.mp ho)
    · exact List.map_congr_left fun o ho => hF2 o (List.mem_range.mp ho)
end
theorem ac_m_thrown {d : Nat} {Y : am_Y} {m : Nat} {h : am_H} (hM : am_at Y m am_L12) : am_cI am_Md_thrown d Y [.inr (.inr m)] h (fun r h1 => h1 = h ∧ r = h m 0) :=
  am_Met.of (by decide) rfl (Nat.le_of_ble_eq_true rfl) (ab_Md_thrown_0 hM (by rw [am_qI_s]; exact ⟨rfl, rfl⟩))
theorem lw_lq {B : Prop} {F : Int} {h h2 : am_H} {rv : Option am_V} (hq : an_lq 179 B F (fun h1 => ∀ q, (q < 0 + 111 ∨ 0 + 114 ≤ q) → h1 q = h q) (fun h1 => ¬ B ∧ ∀ q, (q < 0 + 111 ∨ 0 + 114 ≤ q) → h1 q = h q) rv h2) :
    ∃ k0 : Int, rv = some (.inl k0) ∧ (k0 = 0 ∧ B ∧ h2 179 0 = F ∨ k0 = 1 ∧ ¬ B) ∧ ∀ q, (q < 0 + 111 ∨ 0 + 114 ≤ q ∧ q < 148 + 31) → h2 q = h q := by
  rcases hq with ⟨e1, b, h1, k, e2⟩ | ⟨e1, nb, k⟩
  · refine ⟨0, e1, Or.inl ⟨rfl, b, ?_⟩, fun q hq => ?_⟩
    · rw [e2, am_u_s]
    · rw [e2, am_u_n _ _ _ _ _ (by omega)]
      exact k q (by omega)
  · exact ⟨1, e1, Or.inr ⟨rfl, nb⟩, fun q hq => k q (by omega)⟩
theorem lw_eq {B P : Prop} {k0 t : Int} (hk : k0 = 0 ∧ B ∧ P ∨ k0 = 1 ∧ ¬ B) (a : B → t = 0) (n : ¬ B → t = 1) : t = k0 := by
  rcases hk with ⟨e, b, -⟩ | ⟨e, b⟩
  · rw [a b, e]
  · rw [n b, e]
theorem lw_out {B : Prop} {k0 F w : Int} {h2 h3 : am_H} (hk : k0 = 0 ∧ B ∧ h2 179 0 = F ∨ k0 = 1 ∧ ¬ B) (z : k0 = 0) (a : B → w = F) (e : h3 179 = h2 179) : h3 179 0 = w := by
  rcases hk with ⟨-, b, q⟩ | ⟨q, -⟩
  · rw [e, q, a b]
  · omega
theorem lw_help_w : am_cw am_Lw_help [(0, 10, 13, 13)] 4 := ⟨am_t 1272 (by decide +kernel) (by decide +kernel), am_in_NightHelpLaw, am_t 1271 (by decide +kernel) (by decide +kernel), ⟨by decide, by decide, by decide +kernel⟩, by decide⟩
theorem lw_person_w : am_cw am_Lw_person [(0, 10, 13, 13)] 4 := ⟨am_t 1341 (by decide +kernel) (by decide +kernel), am_in_NightHelpLaw, am_t 1340 (by decide +kernel) (by decide +kernel), ⟨by decide, by decide, by decide +kernel⟩, by decide⟩
theorem lw_came_w : am_cw am_Lw_came [(0, 10, 13, 13)] 4 := ⟨am_t 1357 (by decide +kernel) (by decide +kernel), am_in_NightHelpLaw, am_t 1356 (by decide +kernel) (by decide +kernel), ⟨by decide, by decide, by decide +kernel⟩, by decide⟩
theorem lw_best_w : am_cw am_Lw_best [(0, 15, 18, 13)] 7 := ⟨am_t 1365 (by decide +kernel) (by decide +kernel), am_in_NightHelpLaw, am_t 1364 (by decide +kernel) (by decide +kernel), ⟨by decide, by decide, by decide +kernel⟩, by decide⟩
theorem an_df11 : ∀ j, j < 15 → defaultValue (am_y11 j) = vp_V (an_f0 (am_fk 11)) j := by decide +kernel
theorem an_df12 : ∀ j, j < 65 → defaultValue (am_y12 j) = vp_V (an_f0 (am_fk 12)) j := by decide +kernel
