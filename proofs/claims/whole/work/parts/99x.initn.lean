/-! the class's own constructor: it makes an array of states too -/
def zNh (h : am_H) (x : Nat) : Prop := h x = (fun _ => 0) ∧ zSt h (x + 2) ∧ h (x + 27) = (fun _ => 0) ∧ h (x + 51) = (fun _ => 0) ∧ h (x + 114) = (fun _ => 0) ∧ h (x + 138) = fun _ => 0
theorem va_D.dis {A : Nat → Prop} {w1 w2 : va_W} (h : va_D A (w1 ++ w2)) {p q : Nat × va_E} (hp : p ∈ w1) (hq : q ∈ w2) : p.1 ≠ q.1 := by
  obtain ⟨i, hi⟩ := List.getElem?_of_mem hp
  obtain ⟨j, hj⟩ := List.getElem?_of_mem hq
  exact h.split.2.2 i j p q hi hj
theorem va_D.appM {A : Nat → Prop} {w1 w2 : va_W} (h1 : va_D A w1) (h2 : va_D A w2) (hd : ∀ p ∈ w1, ∀ q ∈ w2, p.1 ≠ q.1) : va_D A (w1 ++ w2) :=
  va_D.app h1 h2 fun i j p q hp hq => hd p (List.mem_of_getElem? hp) q (List.mem_of_getElem? hq)
theorem va_D.swp {A : Nat → Prop} {w1 w2 w3 : va_W} (h : va_D A ((w1 ++ w2) ++ w3)) : va_D A ((w1 ++ w3) ++ w2) := by
  have a := h.split.1.split
  have d3 := h.split.2.1
  refine va_D.appM (va_D.appM a.1 d3 fun p hp q hq => h.dis (List.mem_append_left _ hp) hq) a.2.1 fun p hp q hq => ?_
  rcases List.mem_append.mp hp with z | z
  · exact h.split.1.dis z hq
  · exact (h.dis (List.mem_append_right _ hq) z).symm
theorem va_D.addr {A : Nat → Prop} {ws ws' : va_W} (h : va_D A ws) (e : ws'.map Prod.fst = ws.map Prod.fst) : va_D A ws' := by
  have key : ∀ (i : Nat) (p : Nat × va_E), ws'[i]? = some p → ∃ q, ws[i]? = some q ∧ q.1 = p.1 := fun i p hp => by
    have h1 : (ws'.map Prod.fst)[i]? = some p.1 := by rw [List.getElem?_map, hp]; rfl
    rw [e, List.getElem?_map] at h1
    cases hq : ws[i]? with
    | none => rw [hq] at h1; cases h1
    | some q => rw [hq] at h1; exact ⟨q, rfl, Option.some.inj h1⟩
  refine ⟨fun i j p q hp hq hpq => ?_, fun k q hk => ?_⟩
  · obtain ⟨p', a1, a2⟩ := key i p hp
    obtain ⟨q', b1, b2⟩ := key j q hq
    exact h.1 i j p' q' a1 b1 (a2.trans (hpq.trans b2.symm))
  · obtain ⟨q', b1, b2⟩ := key k q hk
    rw [← b2]
    exact h.2 k q' b1
/-- the second part of a list of objects, by itself -/
theorem an_c_sp {ad : Nat → Nat} {ka : Nat → ClassId} {Y1 Y2 : am_Y} {h : am_H} {n : Nat} (hn : Y1.length = n) : am_c ad ka (Y1 ++ Y2) h = am_c ad ka Y1 h ++ am_c (fun i => ad (n + i)) ka Y2 (fun i => h (n + i)) := by
  subst hn
  apply List.ext_getElem?
  intro o
  by_cases k : o < Y1.length
  · have hy : Y1[o]? = some Y1[o] := List.getElem?_eq_getElem k
    have hy2 : (Y1 ++ Y2)[o]? = some Y1[o] := by rw [List.getElem?_append_left k, hy]
    rw [List.getElem?_append_left (by rw [am_c_len]; exact k), am_c_at hy2, am_c_at hy]
  · rw [List.getElem?_append_right (by rw [am_c_len]; omega), am_c_len]
    obtain ⟨i, rfl⟩ : ∃ i, o = Y1.length + i := ⟨o - Y1.length, by omega⟩
    rw [Nat.add_sub_cancel_left]
    cases hy : Y2[i]? with
    | none =>
      have := List.getElem?_eq_none_iff.mp hy
      rw [List.getElem?_eq_none (by rw [am_c_len, List.length_append]; omega), List.getElem?_eq_none (by rw [am_c_len]; omega)]
    | some y =>
      have hy2 : (Y1 ++ Y2)[Y1.length + i]? = some y := by rw [List.getElem?_append_right (by omega), Nat.add_sub_cancel_left, hy]
      rw [am_c_at hy2, am_c_at hy]
      rw [an_e_c (ad := fun i => ad (Y1.length + i)) (h := fun i => h (Y1.length + i)) (o := i) rfl (fun z f hf => Or.inr (by rw [Nat.add_assoc])) (fun z j => by rw [show Y1.length + i + 1 + 24 * j = Y1.length + (i + 1 + 24 * j) from by omega])]
/-- an array of states in front -/
theorem an_c_17 {qa : Nat} {ad : Nat → Nat} {ka : Nat → ClassId} {Y : am_Y} {h : am_H} : am_c (an_ap 1 (fun _ => qa) ad) ka ((17, 2) :: Y) (an_ap 1 (fun _ _ => 0) h) = ((qa, .inl (ka 17, 2, .inr (.inr (.inr (.inr (fun j => some (ad (24 * j)))))))) :: am_c ad ka Y h : va_W) := by
  apply List.ext_getElem?
  intro o
  cases o with
  | zero =>
    have hy : ((17, 2) :: Y : am_Y)[0]? = some (17, 2) := rfl
    rw [am_c_at hy, am_e17, an_ap_lt (by omega)]
    have e : (fun j : Nat => some (an_ap 1 (fun _ => qa) ad (0 + 1 + 24 * j))) = fun j => some (ad (24 * j)) := by
      funext j
      rw [an_ap_ge (by omega), show 0 + 1 + 24 * j - 1 = 24 * j from by omega]
    rw [e]
    rfl
  | succ i =>
    rw [List.getElem?_cons_succ]
    cases hy : Y[i]? with
    | none =>
      have := List.getElem?_eq_none_iff.mp hy
      rw [List.getElem?_eq_none (by rw [am_c_len, List.length_cons]; omega), List.getElem?_eq_none (by rw [am_c_len]; omega)]
    | some y =>
      have hy2 : ((17, 2) :: Y : am_Y)[i + 1]? = some y := by rw [List.getElem?_cons_succ, hy]
      rw [am_c_at hy2, am_c_at hy, show i + 1 = 1 + i from by omega, an_ap_r]
      rw [an_e_c (ad := ad) (h := h) (o := i) an_ap_r (fun z f hf => Or.inr (by rw [Nat.add_assoc, an_ap_r])) (fun z j => by rw [show 1 + i + 1 + 24 * j = 1 + (i + 1 + 24 * j) from by omega, an_ap_r])]
section
variable {p : Program} {l : Launch} {e : Env} {R : Room} {s : State} {m : MethodId} {args : Array Value} {below : List Frame} {meth : Method} {c : Code} {G : am_G} {A : Nat → Prop} {M : am_M} {E : State → Prop} {r : Array Slot}
variable {cs ss pc : Nat} {pre : va_W} {Y : am_Y} {ad : Nat → Nat} {h : am_H} {st : List Value}
abbrev an_q (ka : Nat → ClassId) (qa : Nat) (f : Nat → Option Nat) : Nat × va_E := (qa, .inl (ka 17, 2, .inr (.inr (.inr (.inr f)))))
theorem an_Daq {idx : Nat} {nI : Int} (hO : an_O s) (hd : decode M.2.1 pc = .ok (.anewarray idx, 3)) (hcl : Cond.classLink M.1.cls idx "NightHelp$State" ∈ am_ws) (hneg : ¬ Int32.ofInt nI < 0) (hn : (Int32.ofInt nI).toNatClampNeg = 2) (hc : cs + 1 ≤ R.cells) (hs2 : ss + 2 ≤ R.slots)
    (k : ∀ q, an_D p l e R s m args below meth c G A M E r (cs + 1) (ss + 2) (pc + 3) (pre ++ [an_q G.2.2.1 q (fun _ => none)]) Y ad h (.ref q :: st)) : an_D p l e R s m args below meth c G A M E r cs ss pc pre Y ad h (.int (Int32.ofInt nI) :: st) := by
  intro X hA H locs hP hD hS ho
  have hK := X.2.2.2.2.2.2.2.2.1
  refine va_newq (C := "NightHelp$State") X.1 X.2.1 X.2.2.2.2.1 (X.2.2.2.2.2.2.1 _ hcl) hO.1 hK hP hD hS hA hneg hn (by decide) hc hs2 hd fun q cA H1 hK1 hP1 hD1 hS1 => ?_
  have e1 : cA = G.2.2.1 17 := by
    have r1 := (hK.2 4 _ rfl).2
    have r2 := (hK1.2 (am_tys G.2.2.1).length (cA, .object "NightHelp$State") (by rw [List.getElem?_append_right (Nat.le_refl _), Nat.sub_self]; rfl)).2
    exact va_RA.one r2 r1
  subst e1
  obtain ⟨p1, p2⟩ := va_P.split hP1
  obtain ⟨p3, p4⟩ := va_P.split p1
  exact k q X hA H1 locs (va_P.app (va_P.app p3 p2) p4) hD1.swp hS1 ho
theorem an_Dast {h0 k qa n0 nn v : Nat} {fs : List Value} {f f1 : Nat → Option Nat} {i : Int32} (hd : decode M.2.1 pc = .ok (.aastore, 1)) (hY : Y[n0]? = some (7, nn)) (hi : vp_in i 2) (hv : ad n0 = v) (hf : va_up f i.toNatClampNeg (some v) = f1)
    (kk : an_D p l e R s m args below meth c G A M E r cs ss (pc + 1) [(h0, .inr (k, fs)), an_q G.2.2.1 qa f1] Y ad h st) : an_D p l e R s m args below meth c G A M E r cs ss pc [(h0, .inr (k, fs)), an_q G.2.2.1 qa f] Y ad h (.ref v :: .int i :: .ref qa :: st) := by
  subst hf
  subst hv
  intro X hA H locs hP hD hS ho
  have he := am_c_at (ad := ad) (ka := G.2.2.1) (h := h) hY
  rw [am_e_o (by omega)] at he
  exact va_astq (r := (am_R7, am_T7, 7)) (ci := 7) X.1 X.2.1 X.2.2.2.2.2.2.2.2.1 hP hD hS 1 4 (n0 + 2) rfl rfl he rfl hi hd fun H1 locs1 hP1 hD1 hS1 => kk X hA H1 locs1 hP1 hD1 hS1 ho
theorem an_DfinN {h0 qa : Nat} {fs : List Value} {Y1 Y2 : am_Y} {f : Nat → Option Nat} (hY : Y = Y1 ++ Y2) (h25 : Y1.length = 25) (hcl : an_clo Y1 = true) (hf0 : f 0 = some (ad 25)) (hf1 : f 1 = some (ad 49))
    (hfs : fs = am_fs (an_ap 1 (fun _ => h0) (an_ap 25 ad (an_ap 1 (fun _ => qa) (fun i => ad (25 + i))))) 0 (fun _ => 0) (am_fk 11))
    (kk : an_D p l e R s m args below meth c G A M E r cs ss pc [] ((11, 0) :: (Y1 ++ ((17, 2) :: Y2))) (an_ap 1 (fun _ => h0) (an_ap 25 ad (an_ap 1 (fun _ => qa) (fun i => ad (25 + i))))) (an_ap 1 (fun _ _ => 0) (an_ap 25 h (an_ap 1 (fun _ _ => 0) (fun i => h (25 + i))))) st) : an_D p l e R s m args below meth c G A M E r cs ss pc [(h0, .inr (11, fs)), an_q G.2.2.1 qa f] Y ad h st := by
  subst hY
  intro X hA H locs hP hD hS ho
  have ok1 : am_ok Y1 h := fun o y hy => ho o y (by rw [List.getElem?_append_left (List.getElem?_eq_some_iff.mp hy).1, hy])
  have ok2 : am_ok Y2 (fun i => h (25 + i)) := fun o y hy => ho (25 + o) y (by rw [List.getElem?_append_right (by omega), h25, Nat.add_sub_cancel_left, hy])
  rw [an_c_sp h25] at hP hD
  have e1 := an_c_cons (h0 := h0) (k := 11) (fs := fs) (g := fun _ => 0) (ad := an_ap 25 ad (an_ap 1 (fun _ => qa) (fun i => ad (25 + i)))) (ka := G.2.2.1) (Y := Y1 ++ ((17, 2) :: Y2)) (h := an_ap 25 h (an_ap 1 (fun _ _ => 0) (fun i => h (25 + i)))) (by omega) hfs
  rw [an_c_app h25 hcl, an_c_17] at e1
  obtain ⟨p0, p12⟩ := va_P.split hP
  obtain ⟨p1, p2⟩ := va_P.split p12
  have pa : va_P G.1 am_cl [an_q G.2.2.1 qa (fun j => some (ad (25 + 24 * j)))] H := by
    intro k q hk
    have h9 := (List.getElem?_eq_some_iff.mp hk).1
    have h8 : k = 0 := by simpa using h9
    subst h8
    cases hk
    have z := p0 1 (an_q G.2.2.1 qa f) rfl
    have ce : vp_cell (G.2.2.1 17) (2, .inr (.inr (.inr (.inr f)))) = vp_cell (G.2.2.1 17) (2, .inr (.inr (.inr (.inr (fun j => some (ad (25 + 24 * j))))))) := by
      rw [vp_cell_q, vp_cell_q]
      unfold arrV
      congr 1
      congr 1
      funext j
      have hj := j.isLt
      rcases (show j.val = 0 ∨ j.val = 1 by omega) with w | w <;> rw [w]
      · show va_rf (f 0) = va_rf (some (ad (25 + 24 * 0)))
        rw [hf0]
      · show va_rf (f 1) = va_rf (some (ad (25 + 24 * 1)))
        rw [hf1]
    have z' : H[qa]? = some (vp_cell (G.2.2.1 17) (2, .inr (.inr (.inr (.inr f))))) := z
    rw [ce] at z'
    exact z'
  have px : va_P G.1 am_cl [((h0, .inr (11, fs)) : Nat × va_E)] H := (va_P.split (w1 := [((h0, .inr (11, fs)) : Nat × va_E)]) (w2 := [an_q G.2.2.1 qa f]) p0).1
  have hD2 : va_D A ((([((h0, .inr (11, fs)) : Nat × va_E)] ++ [an_q G.2.2.1 qa f]) ++ am_c ad G.2.2.1 Y1 h) ++ am_c (fun i => ad (25 + i)) G.2.2.1 Y2 (fun i => h (25 + i))) := by
    rw [List.append_assoc]
    exact hD
  have hD3 : va_D A ((([((h0, .inr (11, fs)) : Nat × va_E)] ++ am_c ad G.2.2.1 Y1 h) ++ [an_q G.2.2.1 qa f]) ++ am_c (fun i => ad (25 + i)) G.2.2.1 Y2 (fun i => h (25 + i))) := by
    refine va_D.appM hD2.split.1.swp hD2.split.2.1 fun p hp q hq => hD2.dis ?_ hq
    simp only [List.mem_append] at hp ⊢
    rcases hp with (z | z) | z
    · exact Or.inl (Or.inl z)
    · exact Or.inr z
    · exact Or.inl (Or.inr z)
  refine kk X hA H locs ?_ ?_ hS (an_ok_app (Y1 := [(11, 0)]) rfl (fun o y hy j => ?_) (an_ok_app h25 ok1 (an_ok_app (Y1 := [(17, 2)]) rfl (fun o y hy j => ?_) ok2)))
  · show va_P G.1 am_cl (am_c _ _ _ _) H
    rw [← e1]
    exact va_P.app px (va_P.app p1 (va_P.app pa p2))
  · show va_D A (am_c _ _ _ _)
    rw [← e1]
    refine hD3.addr ?_
    simp [an_q]
  · have h9 := (List.getElem?_eq_some_iff.mp hy).1
    have h8 : o = 0 := by simpa using h9
    subst h8
    exact am_rg_0 _
  · have h9 := (List.getElem?_eq_some_iff.mp hy).1
    have h8 : o = 0 := by simpa using h9
    subst h8
    exact am_rg_0 _
end
theorem ad_Nh_init_0 : decode prog_1_method_1_code 0 = .ok (.aload_n 0, 1) := by decide +kernel
theorem ad_Nh_init_1 : decode prog_1_method_1_code 1 = .ok (.invokespecial 3, 3) := by decide +kernel
theorem ad_Nh_init_4 : decode prog_1_method_1_code 4 = .ok (.aload_n 0, 1) := by decide +kernel
theorem ad_Nh_init_5 : decode prog_1_method_1_code 5 = .ok (.sipush 940, 3) := by decide +kernel
theorem ad_Nh_init_8 : decode prog_1_method_1_code 8 = .ok (.newarray .byte, 2) := by decide +kernel
theorem ad_Nh_init_10 : decode prog_1_method_1_code 10 = .ok (.putfield 9, 3) := by decide +kernel
theorem ad_Nh_init_13 : decode prog_1_method_1_code 13 = .ok (.aload_n 0, 1) := by decide +kernel
theorem ad_Nh_init_14 : decode prog_1_method_1_code 14 = .ok (.iconst 0, 1) := by decide +kernel
theorem ad_Nh_init_15 : decode prog_1_method_1_code 15 = .ok (.putfield 13, 3) := by decide +kernel
theorem ad_Nh_init_18 : decode prog_1_method_1_code 18 = .ok (.aload_n 0, 1) := by decide +kernel
theorem ad_Nh_init_19 : decode prog_1_method_1_code 19 = .ok (.iconst 0, 1) := by decide +kernel
theorem ad_Nh_init_20 : decode prog_1_method_1_code 20 = .ok (.putfield 17, 3) := by decide +kernel
theorem ad_Nh_init_23 : decode prog_1_method_1_code 23 = .ok (.aload_n 0, 1) := by decide +kernel
theorem ad_Nh_init_24 : decode prog_1_method_1_code 24 = .ok (.new 20, 3) := by decide +kernel
theorem ad_Nh_init_27 : decode prog_1_method_1_code 27 = .ok (.dup, 1) := by decide +kernel
theorem ad_Nh_init_28 : decode prog_1_method_1_code 28 = .ok (.invokespecial 22, 3) := by decide +kernel
theorem ad_Nh_init_31 : decode prog_1_method_1_code 31 = .ok (.putfield 23, 3) := by decide +kernel
theorem ad_Nh_init_34 : decode prog_1_method_1_code 34 = .ok (.aload_n 0, 1) := by decide +kernel
theorem ad_Nh_init_35 : decode prog_1_method_1_code 35 = .ok (.iconst 2, 1) := by decide +kernel
theorem ad_Nh_init_36 : decode prog_1_method_1_code 36 = .ok (.anewarray 20, 3) := by decide +kernel
theorem ad_Nh_init_39 : decode prog_1_method_1_code 39 = .ok (.dup, 1) := by decide +kernel
theorem ad_Nh_init_40 : decode prog_1_method_1_code 40 = .ok (.iconst 0, 1) := by decide +kernel
theorem ad_Nh_init_41 : decode prog_1_method_1_code 41 = .ok (.new 20, 3) := by decide +kernel
theorem ad_Nh_init_44 : decode prog_1_method_1_code 44 = .ok (.dup, 1) := by decide +kernel
theorem ad_Nh_init_45 : decode prog_1_method_1_code 45 = .ok (.invokespecial 22, 3) := by decide +kernel
theorem ad_Nh_init_48 : decode prog_1_method_1_code 48 = .ok (.aastore, 1) := by decide +kernel
theorem ad_Nh_init_49 : decode prog_1_method_1_code 49 = .ok (.dup, 1) := by decide +kernel
theorem ad_Nh_init_50 : decode prog_1_method_1_code 50 = .ok (.iconst 1, 1) := by decide +kernel
theorem ad_Nh_init_51 : decode prog_1_method_1_code 51 = .ok (.new 20, 3) := by decide +kernel
theorem ad_Nh_init_54 : decode prog_1_method_1_code 54 = .ok (.dup, 1) := by decide +kernel
theorem ad_Nh_init_55 : decode prog_1_method_1_code 55 = .ok (.invokespecial 22, 3) := by decide +kernel
theorem ad_Nh_init_58 : decode prog_1_method_1_code 58 = .ok (.aastore, 1) := by decide +kernel
theorem ad_Nh_init_59 : decode prog_1_method_1_code 59 = .ok (.putfield 27, 3) := by decide +kernel
theorem ad_Nh_init_62 : decode prog_1_method_1_code 62 = .ok (.aload_n 0, 1) := by decide +kernel
theorem ad_Nh_init_63 : decode prog_1_method_1_code 63 = .ok (.new 31, 3) := by decide +kernel
theorem ad_Nh_init_66 : decode prog_1_method_1_code 66 = .ok (.dup, 1) := by decide +kernel
theorem ad_Nh_init_67 : decode prog_1_method_1_code 67 = .ok (.invokespecial 33, 3) := by decide +kernel
theorem ad_Nh_init_70 : decode prog_1_method_1_code 70 = .ok (.putfield 34, 3) := by decide +kernel
theorem ad_Nh_init_73 : decode prog_1_method_1_code 73 = .ok (.aload_n 0, 1) := by decide +kernel
theorem ad_Nh_init_74 : decode prog_1_method_1_code 74 = .ok (.new 38, 3) := by decide +kernel
theorem ad_Nh_init_77 : decode prog_1_method_1_code 77 = .ok (.dup, 1) := by decide +kernel
theorem ad_Nh_init_78 : decode prog_1_method_1_code 78 = .ok (.invokespecial 40, 3) := by decide +kernel
theorem ad_Nh_init_81 : decode prog_1_method_1_code 81 = .ok (.putfield 41, 3) := by decide +kernel
theorem ad_Nh_init_84 : decode prog_1_method_1_code 84 = .ok (.aload_n 0, 1) := by decide +kernel
theorem ad_Nh_init_85 : decode prog_1_method_1_code 85 = .ok (.new 45, 3) := by decide +kernel
theorem ad_Nh_init_88 : decode prog_1_method_1_code 88 = .ok (.dup, 1) := by decide +kernel
theorem ad_Nh_init_89 : decode prog_1_method_1_code 89 = .ok (.invokespecial 47, 3) := by decide +kernel
theorem ad_Nh_init_92 : decode prog_1_method_1_code 92 = .ok (.putfield 48, 3) := by decide +kernel
theorem ad_Nh_init_95 : decode prog_1_method_1_code 95 = .ok (.aload_n 0, 1) := by decide +kernel
theorem ad_Nh_init_96 : decode prog_1_method_1_code 96 = .ok (.new 52, 3) := by decide +kernel
theorem ad_Nh_init_99 : decode prog_1_method_1_code 99 = .ok (.dup, 1) := by decide +kernel
theorem ad_Nh_init_100 : decode prog_1_method_1_code 100 = .ok (.invokespecial 54, 3) := by decide +kernel
theorem ad_Nh_init_103 : decode prog_1_method_1_code 103 = .ok (.putfield 55, 3) := by decide +kernel
theorem ad_Nh_init_106 : decode prog_1_method_1_code 106 = .ok (.aload_n 0, 1) := by decide +kernel
theorem ad_Nh_init_107 : decode prog_1_method_1_code 107 = .ok (.new 59, 3) := by decide +kernel
theorem ad_Nh_init_110 : decode prog_1_method_1_code 110 = .ok (.dup, 1) := by decide +kernel
theorem ad_Nh_init_111 : decode prog_1_method_1_code 111 = .ok (.invokespecial 61, 3) := by decide +kernel
theorem ad_Nh_init_114 : decode prog_1_method_1_code 114 = .ok (.putfield 62, 3) := by decide +kernel
theorem ad_Nh_init_117 : decode prog_1_method_1_code 117 = .ok (.aload_n 0, 1) := by decide +kernel
theorem ad_Nh_init_118 : decode prog_1_method_1_code 118 = .ok (.new 66, 3) := by decide +kernel
theorem ad_Nh_init_121 : decode prog_1_method_1_code 121 = .ok (.dup, 1) := by decide +kernel
theorem ad_Nh_init_122 : decode prog_1_method_1_code 122 = .ok (.invokespecial 68, 3) := by decide +kernel
theorem ad_Nh_init_125 : decode prog_1_method_1_code 125 = .ok (.putfield 69, 3) := by decide +kernel
theorem ad_Nh_init_128 : decode prog_1_method_1_code 128 = .ok (.aload_n 0, 1) := by decide +kernel
theorem ad_Nh_init_129 : decode prog_1_method_1_code 129 = .ok (.bipush 8, 2) := by decide +kernel
theorem ad_Nh_init_131 : decode prog_1_method_1_code 131 = .ok (.newarray .int, 2) := by decide +kernel
theorem ad_Nh_init_133 : decode prog_1_method_1_code 133 = .ok (.putfield 73, 3) := by decide +kernel
theorem ad_Nh_init_136 : decode prog_1_method_1_code 136 = .ok (.aload_n 0, 1) := by decide +kernel
theorem ad_Nh_init_137 : decode prog_1_method_1_code 137 = .ok (.bipush 8, 2) := by decide +kernel
theorem ad_Nh_init_139 : decode prog_1_method_1_code 139 = .ok (.newarray .int, 2) := by decide +kernel
theorem ad_Nh_init_141 : decode prog_1_method_1_code 141 = .ok (.putfield 77, 3) := by decide +kernel
theorem ad_Nh_init_144 : decode prog_1_method_1_code 144 = .ok (.aload_n 0, 1) := by decide +kernel
theorem ad_Nh_init_145 : decode prog_1_method_1_code 145 = .ok (.iconst 0, 1) := by decide +kernel
theorem ad_Nh_init_146 : decode prog_1_method_1_code 146 = .ok (.putfield 80, 3) := by decide +kernel
theorem ad_Nh_init_149 : decode prog_1_method_1_code 149 = .ok (.aload_n 0, 1) := by decide +kernel
theorem ad_Nh_init_150 : decode prog_1_method_1_code 150 = .ok (.iconst 0, 1) := by decide +kernel
theorem ad_Nh_init_151 : decode prog_1_method_1_code 151 = .ok (.putfield 83, 3) := by decide +kernel
theorem ad_Nh_init_154 : decode prog_1_method_1_code 154 = .ok (.return_, 1) := by decide +kernel
set_option maxRecDepth 20000 in
theorem ai_Nh : an_CP am_Nh_init 11 10 147 18610 am_L11 (fun h => zNh h 0) := by
  refine an_CP.of (by decide) rfl rfl [.null, .int 0, .int 0, .null, .null, .null, .null, .null, .null, .null, .null, .null, .null, .int 0, .int 0] rfl fun p l e s m args below meth c G A h0 r hO hAe hin hrs hr0 hwf => ?_
  refine an_Dal (pc := 0) ad_Nh_init_0 hr0 ?_
  refine an_Dobj (pc := 1) ad_Nh_init_1 (am_t 30 (by decide +kernel) (by decide +kernel)) am_oi am_oc hrs (Nat.le_of_ble_eq_true rfl) (Nat.le_of_ble_eq_true rfl) (Nat.le_of_ble_eq_true rfl) ?_
  refine an_Dal (pc := 4) ad_Nh_init_4 hr0 ?_
  refine an_Dsi (pc := 5) ad_Nh_init_5 ⟨by decide, by decide⟩ ?_
  refine an_Dna (pc := 8) (n0 := 0) (K := 13) (n := 940) (t0 := 0) (ty := .byte) (atype := .byte) (a0 := (940, .inl (fun _ => 0))) rfl (by decide +kernel) ad_Nh_init_8 rfl am_ab (fun _ => rfl) (an_na13 940) (fun _ => rfl) (by decide) (by decide) (Nat.le_of_ble_eq_true rfl) (Nat.le_of_ble_eq_true rfl) (Nat.le_of_ble_eq_true rfl) fun q0 => ?_
  refine an_Dpf (pc := 10) (fty := .array .byte) (fs1 := [.ref q0, .int 0, .int 0, .null, .null, .null, .null, .null, .null, .null, .null, .null, .null, .int 0, .int 0]) hin rfl ad_Nh_init_10 am_f11_0 am_fl_Nh_9 (by decide +kernel) rfl rfl (Nat.le_of_ble_eq_true rfl) rfl ?_
  refine an_Dal (pc := 13) ad_Nh_init_13 hr0 ?_
  refine an_Dic (pc := 14) ad_Nh_init_14 ?_
  refine an_Dpn (pc := 15) (fty := .int) (fs1 := [.ref q0, .int (Int32.ofInt 0), .int 0, .null, .null, .null, .null, .null, .null, .null, .null, .null, .null, .int 0, .int 0]) ad_Nh_init_15 am_f11_1 am_fl_Nh_13 (by decide +kernel) rfl rfl (Nat.le_of_ble_eq_true rfl) rfl ?_
  refine an_Dal (pc := 18) ad_Nh_init_18 hr0 ?_
  refine an_Dic (pc := 19) ad_Nh_init_19 ?_
  refine an_Dpn (pc := 20) (fty := .int) (fs1 := [.ref q0, .int (Int32.ofInt 0), .int (Int32.ofInt 0), .null, .null, .null, .null, .null, .null, .null, .null, .null, .null, .int 0, .int 0]) ad_Nh_init_20 am_f11_2 am_fl_Nh_17 (by decide +kernel) rfl rfl (Nat.le_of_ble_eq_true rfl) rfl ?_
  refine an_Dal (pc := 23) ad_Nh_init_23 hr0 ?_
  refine an_Dnew (pc := 24) (n0 := 1) (T := am_T7) (ty := am_y7) hO ai_State rfl (by decide +kernel) ad_Nh_init_24 ad_Nh_init_27 ad_Nh_init_28 rfl am_uw7 am_p7 an_df7 (am_t 33 (by decide +kernel) (by decide +kernel)) (am_t 34 (by decide +kernel) (by decide +kernel)) (am_t 2 (by decide +kernel) (by decide +kernel)) (am_t 37 (by decide +kernel) (by decide +kernel)) rfl (Or.inr (List.mem_of_getElem? (i := 0) rfl)) (am_t 36 (by decide +kernel) (by decide +kernel)) rfl ⟨by decide, by decide, by decide +kernel⟩ (Nat.le_of_ble_eq_true rfl) (Nat.le_of_ble_eq_true rfl) (Nat.le_of_ble_eq_true rfl) (Nat.le_of_ble_eq_true rfl) (Nat.le_of_ble_eq_true rfl) hrs (Nat.le_of_ble_eq_true rfl) fun a1 g1 z1 => ?_
  refine an_Dpf (pc := 31) (fty := .object "NightHelp$State") (fs1 := [.ref q0, .int (Int32.ofInt 0), .int (Int32.ofInt 0), .ref (a1 0), .null, .null, .null, .null, .null, .null, .null, .null, .null, .int 0, .int 0]) hin rfl ad_Nh_init_31 am_f11_3 am_fl_Nh_23 (by decide +kernel) rfl rfl (Nat.le_of_ble_eq_true rfl) rfl ?_
  refine an_Dal (pc := 34) ad_Nh_init_34 hr0 ?_
  refine an_Dic (pc := 35) ad_Nh_init_35 ?_
  refine an_Daq (pc := 36) hO ad_Nh_init_36 (am_t 33 (by decide +kernel) (by decide +kernel)) (by decide) (by decide) (Nat.le_of_ble_eq_true rfl) (Nat.le_of_ble_eq_true rfl) fun qa => ?_
  refine an_Ddup (pc := 39) ad_Nh_init_39 ?_
  refine an_Dic (pc := 40) ad_Nh_init_40 ?_
  refine an_Dnew (pc := 41) (n0 := 25) (T := am_T7) (ty := am_y7) hO ai_State rfl (by decide +kernel) ad_Nh_init_41 ad_Nh_init_44 ad_Nh_init_45 rfl am_uw7 am_p7 an_df7 (am_t 33 (by decide +kernel) (by decide +kernel)) (am_t 34 (by decide +kernel) (by decide +kernel)) (am_t 2 (by decide +kernel) (by decide +kernel)) (am_t 37 (by decide +kernel) (by decide +kernel)) rfl (Or.inr (List.mem_of_getElem? (i := 0) rfl)) (am_t 36 (by decide +kernel) (by decide +kernel)) rfl ⟨by decide, by decide, by decide +kernel⟩ (Nat.le_of_ble_eq_true rfl) (Nat.le_of_ble_eq_true rfl) (Nat.le_of_ble_eq_true rfl) (Nat.le_of_ble_eq_true rfl) (Nat.le_of_ble_eq_true rfl) hrs (Nat.le_of_ble_eq_true rfl) fun a2 g2 z2 => ?_
  refine an_Dast (pc := 48) (n0 := 25) (nn := 0) ad_Nh_init_48 rfl (am_in (x := 0) ⟨by decide, by decide⟩ (by decide) (by decide)) rfl rfl ?_
  refine an_Ddup (pc := 49) ad_Nh_init_49 ?_
  refine an_Dic (pc := 50) ad_Nh_init_50 ?_
  refine an_Dnew (pc := 51) (n0 := 49) (T := am_T7) (ty := am_y7) hO ai_State rfl (by decide +kernel) ad_Nh_init_51 ad_Nh_init_54 ad_Nh_init_55 rfl am_uw7 am_p7 an_df7 (am_t 33 (by decide +kernel) (by decide +kernel)) (am_t 34 (by decide +kernel) (by decide +kernel)) (am_t 2 (by decide +kernel) (by decide +kernel)) (am_t 37 (by decide +kernel) (by decide +kernel)) rfl (Or.inr (List.mem_of_getElem? (i := 0) rfl)) (am_t 36 (by decide +kernel) (by decide +kernel)) rfl ⟨by decide, by decide, by decide +kernel⟩ (Nat.le_of_ble_eq_true rfl) (Nat.le_of_ble_eq_true rfl) (Nat.le_of_ble_eq_true rfl) (Nat.le_of_ble_eq_true rfl) (Nat.le_of_ble_eq_true rfl) hrs (Nat.le_of_ble_eq_true rfl) fun a3 g3 z3 => ?_
  refine an_Dast (pc := 58) (n0 := 49) (nn := 0) ad_Nh_init_58 rfl (am_in (x := 1) ⟨by decide, by decide⟩ (by decide) (by decide)) rfl rfl ?_
  refine an_Dpf (pc := 59) (fty := .array (.object "NightHelp$State")) (fs1 := [.ref q0, .int (Int32.ofInt 0), .int (Int32.ofInt 0), .ref (a1 0), .ref qa, .null, .null, .null, .null, .null, .null, .null, .null, .int 0, .int 0]) hin rfl ad_Nh_init_59 am_f11_4 am_fl_Nh_27 (by decide +kernel) rfl rfl (Nat.le_of_ble_eq_true rfl) rfl ?_
  refine an_Dal (pc := 62) ad_Nh_init_62 hr0 ?_
  refine an_Dnew (pc := 63) (n0 := 73) (T := am_T10) (ty := am_y10) hO ai_VillageText rfl (by decide +kernel) ad_Nh_init_63 ad_Nh_init_66 ad_Nh_init_67 rfl am_uw10 am_p10 an_df10 (am_t 268 (by decide +kernel) (by decide +kernel)) (am_t 269 (by decide +kernel) (by decide +kernel)) (am_t 7 (by decide +kernel) (by decide +kernel)) (am_t 272 (by decide +kernel) (by decide +kernel)) rfl (Or.inr (List.mem_of_getElem? (i := 1) rfl)) (am_t 271 (by decide +kernel) (by decide +kernel)) rfl ⟨by decide, by decide, by decide +kernel⟩ (Nat.le_of_ble_eq_true rfl) (Nat.le_of_ble_eq_true rfl) (Nat.le_of_ble_eq_true rfl) (Nat.le_of_ble_eq_true rfl) (Nat.le_of_ble_eq_true rfl) hrs (Nat.le_of_ble_eq_true rfl) fun a4 g4 z4 => ?_
  refine an_Dpf (pc := 70) (fty := .object "NightHelp$VillageText") (fs1 := [.ref q0, .int (Int32.ofInt 0), .int (Int32.ofInt 0), .ref (a1 0), .ref qa, .ref (a4 0), .null, .null, .null, .null, .null, .null, .null, .int 0, .int 0]) hin rfl ad_Nh_init_70 am_f11_5 am_fl_Nh_34 (by decide +kernel) rfl rfl (Nat.le_of_ble_eq_true rfl) rfl ?_
  refine an_Dal (pc := 73) ad_Nh_init_73 hr0 ?_
  refine an_Dnew (pc := 74) (n0 := 89) (T := am_T3) (ty := am_y3) hO ai_BookText rfl (by decide +kernel) ad_Nh_init_74 ad_Nh_init_77 ad_Nh_init_78 rfl am_uw3 am_p3 an_df3 (am_t 349 (by decide +kernel) (by decide +kernel)) (am_t 350 (by decide +kernel) (by decide +kernel)) (am_t 9 (by decide +kernel) (by decide +kernel)) (am_t 353 (by decide +kernel) (by decide +kernel)) rfl (Or.inr (List.mem_of_getElem? (i := 3) rfl)) (am_t 352 (by decide +kernel) (by decide +kernel)) rfl ⟨by decide, by decide, by decide +kernel⟩ (Nat.le_of_ble_eq_true rfl) (Nat.le_of_ble_eq_true rfl) (Nat.le_of_ble_eq_true rfl) (Nat.le_of_ble_eq_true rfl) (Nat.le_of_ble_eq_true rfl) hrs (Nat.le_of_ble_eq_true rfl) fun a5 g5 z5 => ?_
  refine an_Dpf (pc := 81) (fty := .object "NightHelp$BookText") (fs1 := [.ref q0, .int (Int32.ofInt 0), .int (Int32.ofInt 0), .ref (a1 0), .ref qa, .ref (a4 0), .ref (a5 0), .null, .null, .null, .null, .null, .null, .int 0, .int 0]) hin rfl ad_Nh_init_81 am_f11_6 am_fl_Nh_41 (by decide +kernel) rfl rfl (Nat.le_of_ble_eq_true rfl) rfl ?_
  refine an_Dal (pc := 84) ad_Nh_init_84 hr0 ?_
  refine an_Dnew (pc := 85) (n0 := 103) (T := am_T6) (ty := am_y6) hO ai_SentenceText rfl (by decide +kernel) ad_Nh_init_85 ad_Nh_init_88 ad_Nh_init_89 rfl am_uw6 am_p6 an_df6 (am_t 386 (by decide +kernel) (by decide +kernel)) (am_t 387 (by decide +kernel) (by decide +kernel)) (am_t 10 (by decide +kernel) (by decide +kernel)) (am_t 390 (by decide +kernel) (by decide +kernel)) rfl (Or.inr (List.mem_of_getElem? (i := 5) rfl)) (am_t 389 (by decide +kernel) (by decide +kernel)) rfl ⟨by decide, by decide, by decide +kernel⟩ (Nat.le_of_ble_eq_true rfl) (Nat.le_of_ble_eq_true rfl) (Nat.le_of_ble_eq_true rfl) (Nat.le_of_ble_eq_true rfl) (Nat.le_of_ble_eq_true rfl) hrs (Nat.le_of_ble_eq_true rfl) fun a6 g6 z6 => ?_
  refine an_Dpf (pc := 92) (fty := .object "NightHelp$SentenceText") (fs1 := [.ref q0, .int (Int32.ofInt 0), .int (Int32.ofInt 0), .ref (a1 0), .ref qa, .ref (a4 0), .ref (a5 0), .ref (a6 0), .null, .null, .null, .null, .null, .int 0, .int 0]) hin rfl ad_Nh_init_92 am_f11_7 am_fl_Nh_48 (by decide +kernel) rfl rfl (Nat.le_of_ble_eq_true rfl) rfl ?_
  refine an_Dal (pc := 95) ad_Nh_init_95 hr0 ?_
  refine an_Dnew (pc := 96) (n0 := 109) (T := am_T0) (ty := am_y0) hO ai_Best rfl (by decide +kernel) ad_Nh_init_96 ad_Nh_init_99 ad_Nh_init_100 rfl am_uw0 am_p0 an_df0 (am_t 419 (by decide +kernel) (by decide +kernel)) (am_t 420 (by decide +kernel) (by decide +kernel)) (am_t 11 (by decide +kernel) (by decide +kernel)) (am_t 423 (by decide +kernel) (by decide +kernel)) rfl (Or.inr (List.mem_of_getElem? (i := 7) rfl)) (am_t 422 (by decide +kernel) (by decide +kernel)) rfl ⟨by decide, by decide, by decide +kernel⟩ (Nat.le_of_ble_eq_true rfl) (Nat.le_of_ble_eq_true rfl) (Nat.le_of_ble_eq_true rfl) (Nat.le_of_ble_eq_true rfl) (Nat.le_of_ble_eq_true rfl) hrs (Nat.le_of_ble_eq_true rfl) fun a7 g7 z7 => ?_
  refine an_Dpf (pc := 103) (fty := .object "NightHelp$Best") (fs1 := [.ref q0, .int (Int32.ofInt 0), .int (Int32.ofInt 0), .ref (a1 0), .ref qa, .ref (a4 0), .ref (a5 0), .ref (a6 0), .ref (a7 0), .null, .null, .null, .null, .int 0, .int 0]) hin rfl ad_Nh_init_103 am_f11_8 am_fl_Nh_55 (by decide +kernel) rfl rfl (Nat.le_of_ble_eq_true rfl) rfl ?_
  refine an_Dal (pc := 106) ad_Nh_init_106 hr0 ?_
  refine an_Dnew (pc := 107) (n0 := 112) (T := am_T5) (ty := am_y5) hO ai_Run rfl (by decide +kernel) ad_Nh_init_107 ad_Nh_init_110 ad_Nh_init_111 rfl am_uw5 am_p5 an_df5 (am_t 442 (by decide +kernel) (by decide +kernel)) (am_t 443 (by decide +kernel) (by decide +kernel)) (am_t 12 (by decide +kernel) (by decide +kernel)) (am_t 446 (by decide +kernel) (by decide +kernel)) rfl (Or.inr (List.mem_of_getElem? (i := 8) rfl)) (am_t 445 (by decide +kernel) (by decide +kernel)) rfl ⟨by decide, by decide, by decide +kernel⟩ (Nat.le_of_ble_eq_true rfl) (Nat.le_of_ble_eq_true rfl) (Nat.le_of_ble_eq_true rfl) (Nat.le_of_ble_eq_true rfl) (Nat.le_of_ble_eq_true rfl) hrs (Nat.le_of_ble_eq_true rfl) fun a8 g8 z8 => ?_
  refine an_Dpf (pc := 114) (fty := .object "NightHelp$Run") (fs1 := [.ref q0, .int (Int32.ofInt 0), .int (Int32.ofInt 0), .ref (a1 0), .ref qa, .ref (a4 0), .ref (a5 0), .ref (a6 0), .ref (a7 0), .ref (a8 0), .null, .null, .null, .int 0, .int 0]) hin rfl ad_Nh_init_114 am_f11_9 am_fl_Nh_62 (by decide +kernel) rfl rfl (Nat.le_of_ble_eq_true rfl) rfl ?_
  refine an_Dal (pc := 117) ad_Nh_init_117 hr0 ?_
  refine an_Dnew (pc := 118) (n0 := 136) (T := am_T4) (ty := am_y4) hO ai_Left rfl (by decide +kernel) ad_Nh_init_118 ad_Nh_init_121 ad_Nh_init_122 rfl am_uw4 am_p4 an_df4 (am_t 494 (by decide +kernel) (by decide +kernel)) (am_t 495 (by decide +kernel) (by decide +kernel)) (am_t 13 (by decide +kernel) (by decide +kernel)) (am_t 498 (by decide +kernel) (by decide +kernel)) rfl (Or.inr (List.mem_of_getElem? (i := 10) rfl)) (am_t 497 (by decide +kernel) (by decide +kernel)) rfl ⟨by decide, by decide, by decide +kernel⟩ (Nat.le_of_ble_eq_true rfl) (Nat.le_of_ble_eq_true rfl) (Nat.le_of_ble_eq_true rfl) (Nat.le_of_ble_eq_true rfl) (Nat.le_of_ble_eq_true rfl) hrs (Nat.le_of_ble_eq_true rfl) fun a9 g9 z9 => ?_
  refine an_Dpf (pc := 125) (fty := .object "NightHelp$Left") (fs1 := [.ref q0, .int (Int32.ofInt 0), .int (Int32.ofInt 0), .ref (a1 0), .ref qa, .ref (a4 0), .ref (a5 0), .ref (a6 0), .ref (a7 0), .ref (a8 0), .ref (a9 0), .null, .null, .int 0, .int 0]) hin rfl ad_Nh_init_125 am_f11_10 am_fl_Nh_69 (by decide +kernel) rfl rfl (Nat.le_of_ble_eq_true rfl) rfl ?_
  refine an_Dal (pc := 128) ad_Nh_init_128 hr0 ?_
  refine an_Dbi (pc := 129) ad_Nh_init_129 ⟨by decide, by decide⟩ ?_
  refine an_Dna (pc := 131) (n0 := 144) (K := 14) (n := 8) (t0 := 1) (ty := .int) (atype := .int) (a0 := (8, .inl (fun _ => 0))) rfl (by decide +kernel) ad_Nh_init_131 rfl am_ai (fun _ => rfl) (an_na14 8) (fun _ => rfl) (by decide) (by decide) (Nat.le_of_ble_eq_true rfl) (Nat.le_of_ble_eq_true rfl) (Nat.le_of_ble_eq_true rfl) fun q10 => ?_
  refine an_Dpf (pc := 133) (fty := .array .int) (fs1 := [.ref q0, .int (Int32.ofInt 0), .int (Int32.ofInt 0), .ref (a1 0), .ref qa, .ref (a4 0), .ref (a5 0), .ref (a6 0), .ref (a7 0), .ref (a8 0), .ref (a9 0), .ref q10, .null, .int 0, .int 0]) hin rfl ad_Nh_init_133 am_f11_11 am_fl_Nh_73 (by decide +kernel) rfl rfl (Nat.le_of_ble_eq_true rfl) rfl ?_
  refine an_Dal (pc := 136) ad_Nh_init_136 hr0 ?_
  refine an_Dbi (pc := 137) ad_Nh_init_137 ⟨by decide, by decide⟩ ?_
  refine an_Dna (pc := 139) (n0 := 145) (K := 14) (n := 8) (t0 := 1) (ty := .int) (atype := .int) (a0 := (8, .inl (fun _ => 0))) rfl (by decide +kernel) ad_Nh_init_139 rfl am_ai (fun _ => rfl) (an_na14 8) (fun _ => rfl) (by decide) (by decide) (Nat.le_of_ble_eq_true rfl) (Nat.le_of_ble_eq_true rfl) (Nat.le_of_ble_eq_true rfl) fun q11 => ?_
  refine an_Dpf (pc := 141) (fty := .array .int) (fs1 := [.ref q0, .int (Int32.ofInt 0), .int (Int32.ofInt 0), .ref (a1 0), .ref qa, .ref (a4 0), .ref (a5 0), .ref (a6 0), .ref (a7 0), .ref (a8 0), .ref (a9 0), .ref q10, .ref q11, .int 0, .int 0]) hin rfl ad_Nh_init_141 am_f11_12 am_fl_Nh_77 (by decide +kernel) rfl rfl (Nat.le_of_ble_eq_true rfl) rfl ?_
  refine an_Dal (pc := 144) ad_Nh_init_144 hr0 ?_
  refine an_Dic (pc := 145) ad_Nh_init_145 ?_
  refine an_Dpn (pc := 146) (fty := .int) (fs1 := [.ref q0, .int (Int32.ofInt 0), .int (Int32.ofInt 0), .ref (a1 0), .ref qa, .ref (a4 0), .ref (a5 0), .ref (a6 0), .ref (a7 0), .ref (a8 0), .ref (a9 0), .ref q10, .ref q11, .int (Int32.ofInt 0), .int 0]) ad_Nh_init_146 am_f11_13 am_fl_Nh_80 (by decide +kernel) rfl rfl (Nat.le_of_ble_eq_true rfl) rfl ?_
  refine an_Dal (pc := 149) ad_Nh_init_149 hr0 ?_
  refine an_Dic (pc := 150) ad_Nh_init_150 ?_
  refine an_Dpn (pc := 151) (fty := .int) (fs1 := [.ref q0, .int (Int32.ofInt 0), .int (Int32.ofInt 0), .ref (a1 0), .ref qa, .ref (a4 0), .ref (a5 0), .ref (a6 0), .ref (a7 0), .ref (a8 0), .ref (a9 0), .ref q10, .ref q11, .int (Int32.ofInt 0), .int (Int32.ofInt 0)]) ad_Nh_init_151 am_f11_14 am_fl_Nh_83 (by decide +kernel) rfl rfl (Nat.le_of_ble_eq_true rfl) rfl ?_
  refine an_DfinN (Y1 := [(13, 940), (7, 0), (9, 0), (14, 6), (14, 6), (14, 6), (14, 8), (14, 8), (14, 48), (14, 64), (14, 64), (14, 48), (14, 48), (2, 0), (14, 60), (14, 8), (14, 8), (14, 8), (1, 0), (14, 384), (14, 384), (14, 48), (14, 8), (14, 8), (13, 200)]) (Y2 := [(7, 0), (9, 0), (14, 6), (14, 6), (14, 6), (14, 8), (14, 8), (14, 48), (14, 64), (14, 64), (14, 48), (14, 48), (2, 0), (14, 60), (14, 8), (14, 8), (14, 8), (1, 0), (14, 384), (14, 384), (14, 48), (14, 8), (14, 8), (13, 200), (7, 0), (9, 0), (14, 6), (14, 6), (14, 6), (14, 8), (14, 8), (14, 48), (14, 64), (14, 64), (14, 48), (14, 48), (2, 0), (14, 60), (14, 8), (14, 8), (14, 8), (1, 0), (14, 384), (14, 384), (14, 48), (14, 8), (14, 8), (13, 200), (10, 0), (8, 0), (14, 1000), (14, 1000), (14, 1000), (9, 0), (14, 6), (14, 6), (14, 6), (14, 8), (14, 8), (14, 48), (14, 64), (14, 64), (14, 48), (14, 48), (3, 0), (8, 0), (14, 1000), (14, 1000), (14, 1000), (2, 0), (14, 60), (14, 8), (14, 8), (14, 8), (1, 0), (14, 384), (14, 384), (14, 48), (6, 0), (8, 0), (14, 1000), (14, 1000), (14, 1000), (14, 40), (0, 0), (15, 210), (14, 210), (5, 0), (14, 8), (14, 8), (9, 0), (14, 6), (14, 6), (14, 6), (14, 8), (14, 8), (14, 48), (14, 64), (14, 64), (14, 48), (14, 48), (14, 8), (14, 8), (1, 0), (14, 384), (14, 384), (0, 0), (15, 210), (14, 210), (15, 384), (15, 384), (4, 0), (14, 48), (14, 48), (14, 8), (14, 48), (14, 8), (14, 8), (14, 8), (14, 8), (14, 8)]) rfl rfl (by decide +kernel) rfl rfl rfl ?_
  refine an_DY (Y' := am_L11) rfl ?_
  exact an_Dret hAe ad_Nh_init_154 rfl rfl ⟨rfl, z1.c (fun q hq => by rw [an_ap_ge (by omega), an_ap_lt (by omega), an_ap_lt (by omega), an_ap_lt (by omega), an_ap_lt (by omega), an_ap_lt (by omega), an_ap_lt (by omega), an_ap_lt (by omega), an_ap_lt (by omega), an_ap_lt (by omega), an_ap_lt (by omega), an_ap_lt (by omega), an_ap_ge (by omega)]; congr 1; omega), z2.1, z3.1, z8, z9⟩ (Nat.le_of_ble_eq_true rfl) (Nat.le_of_ble_eq_true rfl)
