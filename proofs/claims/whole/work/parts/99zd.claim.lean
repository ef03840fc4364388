/-! the law's start: its world is made, its loop begins -/
set_option maxRecDepth 20000 in
theorem whole_start {p : Program} {e : Env} {s : State} {m : MethodId} {below : List Frame} {meth : Method} {c : Code} (l : Launch) (hflags : l.flags = flags0) {b L : Nat} {xs : Nat → Int32} (hL : L ≤ 3072) (C0 : lw_At p s m meth c b L xs) : W p l e room_1 s m #[Value.ref b] below meth c s.heap [] 0 0 (lw_Z below #[Value.ref b] s) (entryFrame m ([Value.ref b] : List Value).toArray 8) := by
  have hl0 : l.stackTraces = false := by
    unfold Launch.stackTraces
    rw [hflags]
    decide +kernel
  obtain ⟨D, ka, sa, hX, hO, hZ⟩ := lw_start C0
  obtain ⟨-, -, -, -, -, -, hxs, hbl, -, -⟩ := C0
  have hl := lv_entry [Value.ref b] (n := 8) (Nat.le_of_ble_eq_true rfl)
  rw [lg_entry_eq]
  generalize (lg_sl [Value.ref b] ++ List.replicate (8 - (lg_sl [Value.ref b]).length) Slot.unset).toArray = r at hl ⊢
  have hl : lv_has r 8 [(0, .ref b)] := hl
  have key : an_D p l e room_1 s m #[Value.ref b] below meth c (D, (fun _ => 0), ka, sa) (fun q => s.heap.size ≤ q) am_Lw_law (lw_Z below #[Value.ref b] s) r 0 0 0 [] [] (fun _ => 0) an_z [] := by
    refine an_Dnew (pc := 0) (n0 := 0) (T := am_T11) (ty := am_y11) hO ai_Nh rfl (by decide +kernel) aL_0 aL_3 aL_4 rfl am_uw11 am_p11 an_df11 (am_t 25 (by decide +kernel) (by decide +kernel)) (am_t 26 (by decide +kernel) (by decide +kernel)) am_in_NightHelp (am_t 29 (by decide +kernel) (by decide +kernel)) rfl (Or.inl (am_t 27 (by decide +kernel) (by decide +kernel))) (am_t 28 (by decide +kernel) (by decide +kernel)) rfl ⟨by decide, by decide, by decide +kernel⟩ (Nat.le_of_ble_eq_true rfl) (Nat.le_of_ble_eq_true rfl) (Nat.le_of_ble_eq_true rfl) (Nat.le_of_ble_eq_true rfl) (Nat.le_of_ble_eq_true rfl) hl.1 (Nat.le_of_ble_eq_true rfl) fun a1 g1 z1 => ?_
    refine an_Dasn (pc := 7) (lv' := [(1, .ref (a1 0)), (0, .ref b)]) aL_7 hl (by decide) rfl fun r1 hl1 => ?_
    refine an_DY (Y' := am_L11) rfl ?_
    refine an_Dpre (ad' := fun _ => 0) (h' := an_z) fun ok1 => ?_
    refine an_Dnew (pc := 8) (n0 := 0) (T := am_T12) (ty := am_y12) hO ai_Md rfl (by decide +kernel) aL_8 aL_11 aL_12 rfl am_uw12 am_p12 an_df12 (am_t 1371 (by decide +kernel) (by decide +kernel)) (am_t 1372 (by decide +kernel) (by decide +kernel)) am_in_NightHelpModel (am_t 1375 (by decide +kernel) (by decide +kernel)) rfl (Or.inl (am_t 1373 (by decide +kernel) (by decide +kernel))) (am_t 1374 (by decide +kernel) (by decide +kernel)) rfl ⟨by decide, by decide, by decide +kernel⟩ (Nat.le_of_ble_eq_true rfl) (Nat.le_of_ble_eq_true rfl) (Nat.le_of_ble_eq_true rfl) (Nat.le_of_ble_eq_true rfl) (Nat.le_of_ble_eq_true rfl) hl1.1 (Nat.le_of_ble_eq_true rfl) fun a2 g2 z2 => ?_
    refine an_Dasn (pc := 15) (lv' := [(2, .ref (a2 0)), (1, .ref (a1 0)), (0, .ref b)]) aL_15 hl1 (by decide) rfl fun r2 hl2 => ?_
    refine an_DY (Y' := am_L12) rfl ?_
    refine an_Dic (pc := 16) aL_16 ?_
    refine an_Dna (pc := 17) (n0 := 31) (K := 15) (n := 1) (t0 := 2) (ty := .long) (atype := .long) (a0 := (1, .inr (.inl (fun _ => 0)))) rfl (by decide +kernel) aL_17 rfl am_aj (fun _ => rfl) (an_na15 1) (fun _ => rfl) (by decide) (by decide) (Nat.le_of_ble_eq_true rfl) (Nat.le_of_ble_eq_true rfl) (Nat.le_of_ble_eq_true rfl) fun q => ?_
    refine an_Dasn (pc := 19) (lv' := [(3, .ref q), (2, .ref (a2 0)), (1, .ref (a1 0)), (0, .ref b)]) aL_19 hl2 (by decide) rfl fun r3 hl3 => ?_
    refine an_Dic (pc := 20) aL_20 ?_
    refine an_Dis (pc := 21) (lv' := [(4, .int (Int32.ofInt 0)), (3, .ref q), (2, .ref (a2 0)), (1, .ref (a1 0)), (0, .ref b)]) aL_21 hl3 (by decide) rfl fun r4 hl4 => ?_
    have adF : ∃ f : Nat → Nat, (∀ o, o < 148 → f o = an_ap 0 (fun _ => 0) a1 o) ∧ (∀ o, o < 32 → f (148 + o) = an_ap 31 (an_ap 0 (fun _ => 0) a2) (fun _ => q) o) ∧ f 180 = b := by
      refine ⟨fun o => if o < 148 then an_ap 0 (fun _ => 0) a1 o else if o < 180 then an_ap 31 (an_ap 0 (fun _ => 0) a2) (fun _ => q) (o - 148) else b, fun o ho => if_pos ho, fun o ho => ?_, rfl⟩
      show (if 148 + o < 148 then _ else if 148 + o < 180 then _ else b) = _
      rw [if_neg (by omega), if_pos (by omega), Nat.add_sub_cancel_left]
    obtain ⟨f, f1, f2, f3⟩ := adF
    have e0 : f 0 = a1 0 := f1 0 (by omega)
    have e1 : f 148 = a2 0 := f2 0 (by omega)
    have e2 : f 179 = q := f2 31 (by omega)
    refine an_DWp (Y1 := am_L11) (n1 := 148) (n2 := 32) (ls := lw_ls 0) (st' := []) rfl rfl (by decide +kernel) (by decide +kernel) ok1 f f1 f2 rfl ?_ (fun v hv => by simp at hv) ?_ ?_
    · intro i v hv
      match i, hv with
      | 0, hv => cases hv; trivial
      | 1, hv => cases hv; trivial
      | 2, hv => cases hv; trivial
      | 3, hv => cases hv; trivial
      | 4, hv => cases hv; exact ⟨by decide, by decide⟩
      | 5, hv => cases hv
      | 6, hv => cases hv
      | 7, hv => cases hv
      | i + 8, hv => simp at hv
    · refine ⟨hl4.1, hl4.2.1, fun i v hv => ?_⟩
      match i, hv with
      | 0, hv => cases hv; show r4[0]? = some (.val (.ref (f 180))); rw [f3]; exact lv_at hl4 4 rfl
      | 1, hv => cases hv; show r4[1]? = some (.val (.ref (f 0))); rw [e0]; exact lv_at hl4 3 rfl
      | 2, hv => cases hv; show r4[2]? = some (.val (.ref (f 148))); rw [e1]; exact lv_at hl4 2 rfl
      | 3, hv => cases hv; show r4[3]? = some (.val (.ref (f 179))); rw [e2]; exact lv_at hl4 1 rfl
      | 4, hv => cases hv; exact lv_at hl4 0 rfl
      | 5, hv => cases hv
      | 6, hv => cases hv
      | 7, hv => cases hv
      | i + 8, hv => simp at hv
    · have R0 : RL (an_ap 148 (an_ap 0 an_z g1) (an_ap 31 (an_ap 0 an_z g2) an_z)) 0 148 := by
        have w1 : ∀ o, o < 148 → an_ap 148 (an_ap 0 an_z g1) (an_ap 31 (an_ap 0 an_z g2) an_z) o = g1 o := fun o ho => by
          rw [an_ap_lt ho, an_ap_ge (Nat.zero_le o), Nat.sub_zero]
        have w2 : ∀ o, o < 31 → an_ap 148 (an_ap 0 an_z g1) (an_ap 31 (an_ap 0 an_z g2) an_z) (148 + o) = g2 o := fun o ho => by
          rw [an_ap_r, an_ap_lt ho, an_ap_ge (Nat.zero_le o), Nat.sub_zero]
        obtain ⟨x0, xs, x27, x51, x114, x138⟩ := z1
        obtain ⟨y0, y2, y9⟩ := z2
        refine RL_0 ⟨?_, xs.c fun j hj => ?_, ?_, ?_, ?_, ?_⟩ ?_ ?_ ?_
        · rw [w1 0 (by omega)]; exact x0
        · rw [w1 (0 + 2 + j) (by omega)]
        · rw [w1 (0 + 27) (by omega)]; exact x27
        · rw [w1 (0 + 51) (by omega)]; exact x51
        · rw [w1 (0 + 114) (by omega)]; exact x114
        · rw [w1 (0 + 138) (by omega)]; exact x138
        · exact (w2 0 (by omega)).trans y0
        · exact (w2 2 (by omega)).trans y2
        · exact (w2 9 (by omega)).trans y9
      refine lw_loop (b := b) (L := L) (xs := xs) ⟨hxs, hbl, Nat.not_le.mpr hbl, f3, hL⟩ hl0 hZ (fun i h cs ss h1 h2 => ?_) 512 0 _ _ _ (by omega) (by omega) (by omega) (by omega) R0
      refine an_iconst (pc := 1384) aL_1384 ⟨by decide, by decide⟩ ?_
      intro X H locs r hP hD hS ho hll hs hr
      exact W.widen (Nat.le_trans h1 (show 600000 ≤ 601024 by omega)) (Nat.le_trans h2 (show 7000000 ≤ 7293034 by omega)) (va_forget hS.2.2 (lw_ret X.1 X.2.1 X.2.2.2.1 X.2.2.2.2.2.1 aL_1385))
  exact key (hX _) (fun q hq => hq) s.heap [] (fun k q hk => by simp [am_c] at hk) ⟨fun i j x y hx => by simp [am_c] at hx, fun k q hk => by simp [am_c] at hk⟩ va_S.rf (fun _ _ hy => by simp at hy)
set_option maxHeartbeats 4000000 in
theorem lw_walk (l : Launch) (hflags : l.flags = flags0) (b : Addr) (xs : List Int32) : MetFree l x (headSpec (Jvm.Cond.code x code maxLocals ret :: tables_1) room_1) (lw_P b xs) (fun _ _ _ _ _ => True) lw_Q := by
  refine MetFree.of_bodyS (code := code) (maxLocals := maxLocals) (ret := ret) (by decide) ?_ ?_
  · intro args s m h hn
    obtain ⟨meth, c, h1, h2, h3, h4, h5, h6, -, -⟩ := Cond.code_spec hn (atoms_spec (ws := Jvm.Cond.code x code maxLocals ret :: tables_1) h _ List.mem_cons_self)
    exact ⟨meth, c, h1, h2, h3, h4, h5, h6⟩
  · intro p e s m args below meth c s₁ B hml0 hP _
    obtain ⟨rfl, hx, hbd, hgv⟩ := hP
    obtain ⟨scr, harrAt, hlist, hof, hsmall⟩ := hx
    obtain ⟨hcb, hkn, -, -⟩ := State.arrayAt?_spec harrAt
    have hown : s.vm.findClass R_law = some m.cls := findClass_of_methodNamed B.named
    have hts0 : ∀ c ∈ (Jvm.Cond.code x code maxLocals ret :: tables_1), c.before #[Value.ref b] s = true := atoms_spec (ws := Jvm.Cond.code x code maxLocals ret :: tables_1) B.pre
    have hts : ∀ w ∈ lw_tbl, w.before #[Value.ref b] s = true := k2_hts_sels lw_privs (fun w hw => hts0 w (List.mem_cons_of_mem _ hw)) lw_privs_ok
    have hml : c.maxLocals = 8 := B.maxLocals_eq (hts0 _ List.mem_cons_self)
    have X₀ : Stand p l e room_1 s m #[Value.ref b] below meth c s₁ [] 0 0 := Stand.of_body B
    have hh0 : s₁.heap = s.heap := by rw [B.state]; rfl
    have hsz : scr.slots.size = xs.length := by rw [← Array.length_toList, hlist, List.length_map]
    have hval : ∀ j : Nat, j < xs.length → scr.slots[j]? = some (.int (xs.getD j 0)) := fun j hj => by
      rw [← Array.getElem?_toList, hlist]
      simp [hj]
    have hbl : b < s.heap.size := (Array.getElem?_eq_some_iff.mp hcb).1
    have hX : va_X b xs.length (fun j => xs.getD j 0) s s.heap := ⟨scr, hcb, hof, hkn, hsz, hval⟩
    have K : W p l e room_1 s m #[Value.ref b] below meth c s₁.heap [] 0 0 (lw_Z below #[Value.ref b] s) (entryFrame m ([Value.ref b] : List Value).toArray 8) := by
      rw [hh0]
      exact whole_start l hflags hbd ⟨B.exec, B.bytes, B.returns, hml, hown, hts, hX, hbl, B.notSynchronized, hgv⟩
    obtain ⟨t, a1, o, b1, b2, b3⟩ := K s₁ rfl X₀
    exact ⟨t, o, a1, b1, b2, b3⟩
theorem lw_pre_spec {args : Array Value} {s : State} (h : (Jvm.Cond.and given_1 narrow_1).before args s = true) (hr : rest_1_c.before args s = true) : ∃ (b : Addr) (xs : List Int32), lw_P b xs args s := by
  have hs := flat_of_before _ h
  have hq := flat_of_before _ hr
  have hc : (Cond.count 1).before args s = true := hs _ (by decide +kernel)
  have harr : (Cond.arrayOf (.arg 0) .int).before args s = true := hs _ (by decide +kernel)
  have hle : (Cond.le (.length (.arg 0)) (.int 3072)).before args s = true := hs _ (by decide +kernel)
  have hlen : (Cond.isInt (.length (.arg 0))).before args s = true := hq _ (by decide +kernel)
  have hall : (Cond.all (.arg 0) (.isInt (.elem (.arg 0) (.index 0)))).before args s = true := hq _ (by decide +kernel)
  obtain ⟨b, xs, hb, hx⟩ := State.ints_of_pre rfl harr hlen hall
  have hsm : xs.length < 2 ^ 31 := hx.choose_spec.2.2.2
  have hev : (Term.length (.arg 0)).eval args s none [] s = some (.int xs.length.toInt32) := hx.length_eval hb
  have hv := Cond.le_ints hev (show (Term.int 3072).eval args s none [] s = some (.int 3072) from rfl)
  have hd : xs.length.toInt32 ≤ 3072 := by
    simpa [Cond.before, Cond.holds, hv] using hle
  have hN : xs.length ≤ 3072 := (Int32.ofNat_le_ofNat hsm (by decide)).mp (show Int32.ofNat xs.length ≤ Int32.ofNat 3072 from hd)
  exact ⟨b, xs, Cond.one_arg hc (show args[0]? = some (.ref b) from hb), hx, hN, h⟩
theorem lw_comes (l : Launch) (hflags : l.flags = flags0) : Comes l x (Jvm.Cond.code x code maxLocals ret :: tables_1) room_1 (fun tb e args s => Calls_1 tb e args s ∧ rest_1 tb e args s ∧ Pre_1 tb e args s)
    (fun _ _ args s o t => lw_Q args s o t) := by
  intro p e ha hc hk s m args below hf hfit hheap happ hpre
  obtain ⟨b, xs, hP⟩ := lw_pre_spec hpre.2.2 hpre.2.1
  obtain ⟨k, o, h1, h2, h3, hQ⟩ := lw_walk l hflags b xs p e ha hc hk s m args below hf ((Spec.applies_iff_loose hf).mp happ).1 hP trivial
  exact ⟨k, o, h1, h2, h3, hQ⟩
theorem lw_frame {s t : State} {o : Outcome} {args : Array Value} (h : Framed s o t [] 601024 7293034) :
    Framed s o t (fieldLocs frame_1_writes args s ++ arrayLocs frame_1_arrays args s ++ staticLocs frame_1_statics s) 601024 7293034 := h
theorem lw_limb (L : Cond) (hL : ∀ (args : Array Value) (s t : State), L.after args s (.returned (some (.int 1))) t = true) :
    ArmFor flags0 classFile x code maxLocals ret World_1 tables_1 room_1 Calls_1 rest_1 Pre_1
      (fun tb e a s o t => postC L tb e a s o t ∧ Framed s o t (fieldLocs frame_1_writes a s ++ arrayLocs frame_1_arrays a s ++ staticLocs frame_1_statics s) 601024 7293034) := by
  intro l hflags _ _ p e ha hc hk s m args below hf hfit hheap happ hpre
  obtain ⟨k, o, h1, h2, h3, rfl, hF⟩ := lw_comes l hflags p e ha hc hk s m args below hf hfit hheap happ hpre
  exact ⟨k, _, h1, h2, h3, hL args s _, lw_frame hF⟩
theorem i_vc : Claimed_1_1 ∧ Claimed_1_2 := ⟨lw_limb limb_1_1 (fun args s t => by simp [limb_1_1, Cond.after, Cond.holds, Cond.value]), lw_limb limb_1_2 (fun args s t => Cond.after_iff.mpr (by
  first | (rw [show limb_1_2 = Cond.eq .result (.int 1) from rfl, Cond.eq_ints (x := 1) (y := 1) rfl rfl]; simp; done) | (simp [limb_1_2, Cond.value, Term.eval]; done)))⟩
