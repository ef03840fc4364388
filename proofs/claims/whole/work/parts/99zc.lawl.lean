/-! the law: its loop, its start, the claim -/
section
variable {p : Program} {l : Launch} {e : Env} {s : State} {m : MethodId} {args : Array Value} {below : List Frame} {meth : Method} {c : Code} {G : am_G} {A : Nat → Prop} {cs ss : Nat} {E : State → Prop}
variable {h : am_H} {b L : Nat} {xs : Nat → Int32} {i : Int}
theorem lw_case (C : lw_C s A G b L xs) (hl0 : l.stackTraces = false) (hZ : an_ZZ A s s.heap) (hi : 0 ≤ i ∧ i + 6 ≤ L) (hcs : cs ≤ 599999) (hss : ss ≤ 6999994) (R : RL h 0 148) (nx : ∀ h1, RL h1 0 148 → an_W p l e room_1 s m args below meth c G A (cs + 1) (ss + 6) E am_Lw_law lw_Y 1378 (lw_ls i) [] h1) : an_W p l e room_1 s m args below meth c G A cs ss E am_Lw_law lw_Y 33 (lw_ls i) [] h := by
  have hcs := Nat.le_succ_of_le hcs
  have hcs2 : cs + 1 ≤ 600000 := by omega
  have hss2 : ss + 6 ≤ 7000000 := by omega
  have hss : ss ≤ 7000000 := by omega
  refine an_aload_n (pc := 33) aL_33 rfl ?_
  refine an_iload (pc := 34) aL_34 rfl ?_
  refine an_sld (pc := 36) C aL_36 (by omega) ?_
  refine an_bipush (pc := 37) aL_37 ⟨by decide, by decide⟩ ?_
  refine an_iand (pc := 39) aL_39 ?_
  refine an_tsw (pc := 40) aL_40 rfl (by decide) (by decide) ⟨by decide, by decide⟩ (fun _ => an_W.widen (Nat.le_succ cs) (Nat.le_add_right ss 6) (nx h R)) ?_
  exact ⟨fun _ => an_W.widen (Nat.le_succ cs) (Nat.le_add_right ss 6) (lw_k0 C hi hcs2 hss2 R nx), fun _ => an_W.widen (Nat.le_succ cs) (Nat.le_add_right ss 6) (lw_k1 C hi hcs2 hss2 R nx), fun _ => an_W.widen (Nat.le_succ cs) (Nat.le_add_right ss 6) (lw_k2 C hi hcs2 hss2 R nx), fun _ => an_W.widen (Nat.le_succ cs) (Nat.le_add_right ss 6) (lw_k3 C hi hcs2 hss2 R nx), fun _ => lw_k4 C hl0 hZ hi hcs hss R nx, fun _ => lw_k5 C hl0 hZ hi hcs hss R nx, fun _ => an_W.widen (Nat.le_succ cs) (Nat.le_add_right ss 6) (lw_k6 C hi hcs2 hss2 R nx), fun _ => an_W.widen (Nat.le_succ cs) (Nat.le_add_right ss 6) (lw_k7 C hi hcs2 hss2 R nx), fun _ => an_W.widen (Nat.le_succ cs) (Nat.le_add_right ss 6) (lw_k8 C hi hcs2 hss2 R nx), fun _ => an_W.widen (Nat.le_succ cs) (Nat.le_add_right ss 6) (lw_k9 C hi hcs2 hss2 R nx), fun _ => an_W.widen (Nat.le_succ cs) (Nat.le_add_right ss 6) (lw_k10 C hi hcs2 hss2 R nx), fun _ => lw_k11 C hl0 hZ hi hcs hss R nx, fun _ => an_W.widen (Nat.le_succ cs) (Nat.le_add_right ss 6) (lw_k12 C hi hcs2 hss2 R nx), fun _ => an_W.widen (Nat.le_succ cs) (Nat.le_add_right ss 6) (lw_k13 C hi hcs2 hss2 R nx), fun _ => an_W.widen (Nat.le_succ cs) (Nat.le_add_right ss 6) (lw_k14 C hi hcs2 hss2 R nx), fun _ => lw_k15 C hl0 hZ hi hcs hss R nx, fun _ => an_W.widen (Nat.le_succ cs) (Nat.le_add_right ss 6) (lw_k16 C hi hcs2 hss2 R nx), fun _ => an_W.widen (Nat.le_succ cs) (Nat.le_add_right ss 6) (lw_k17 C hi hcs2 hss2 R nx), fun _ => an_W.widen (Nat.le_succ cs) (Nat.le_add_right ss 6) (lw_k18 C hi hcs2 hss2 R nx), fun _ => an_W.widen (Nat.le_succ cs) (Nat.le_add_right ss 6) (lw_k19 C hi hcs2 hss2 R nx), fun _ => an_W.widen (Nat.le_succ cs) (Nat.le_add_right ss 6) (lw_k20 C hi hcs2 hss2 R nx), fun _ => an_W.widen (Nat.le_succ cs) (Nat.le_add_right ss 6) (lw_k21 C hi hcs2 hss2 R nx), fun _ => an_W.widen (Nat.le_succ cs) (Nat.le_add_right ss 6) (lw_k22 C hi hcs2 hss2 R nx), fun _ => an_W.widen (Nat.le_succ cs) (Nat.le_add_right ss 6) (lw_k23 C hi hcs2 hss2 R nx), fun _ => an_W.widen (Nat.le_succ cs) (Nat.le_add_right ss 6) (lw_k24 C hi hcs2 hss2 R nx), fun _ => an_W.widen (Nat.le_succ cs) (Nat.le_add_right ss 6) (lw_k25 C hi hcs2 hss2 R nx), fun _ => an_W.widen (Nat.le_succ cs) (Nat.le_add_right ss 6) (lw_k26 C hi hcs2 hss2 R nx), fun _ => an_W.widen (Nat.le_succ cs) (Nat.le_add_right ss 6) (lw_k27 C hi hcs2 hss2 R nx), fun _ => an_W.widen (Nat.le_succ cs) (Nat.le_add_right ss 6) (lw_k28 C hi hcs2 hss2 R nx), fun _ => an_W.widen (Nat.le_succ cs) (Nat.le_add_right ss 6) (lw_k29 C hi hcs2 hss2 R nx), fun _ => an_W.widen (Nat.le_succ cs) (Nat.le_add_right ss 6) (lw_k30 C hi hcs2 hss2 R nx), trivial⟩
theorem lw_step (C : lw_C s A G b L xs) (hl0 : l.stackTraces = false) (hZ : an_ZZ A s s.heap) (h0 : 0 ≤ i) (hcs : cs ≤ 599999) (hss : ss ≤ 6999994) (R : RL h 0 148) (out : (L : Int) - 6 < i → an_W p l e room_1 s m args below meth c G A cs ss E am_Lw_law lw_Y 1384 (lw_ls i) [] h) (nx : i + 6 ≤ L → ∀ h1, RL h1 0 148 → an_W p l e room_1 s m args below meth c G A (cs + 1) (ss + 6) E am_Lw_law lw_Y 23 (lw_ls (i + 6)) [] h1) : an_W p l e room_1 s m args below meth c G A cs ss E am_Lw_law lw_Y 23 (lw_ls i) [] h := by
  have hL := C.2.2.2.2
  refine an_iload (pc := 23) aL_23 rfl ?_
  refine an_W.rg fun _ _ hs => ?_
  have hir : am_ri i := am_hd hs
  unfold am_ri at hir
  refine an_aload_n (pc := 25) aL_25 rfl ?_
  refine an_slen (pc := 26) C aL_26 ?_
  refine an_bipush (pc := 27) aL_27 ⟨by decide, by decide⟩ ?_
  refine an_isub (pc := 29) aL_29 (by unfold am_ri; omega) ?_
  refine an_icmp_gt (pc := 30) (tgt := 1384) aL_30 (by decide) out fun z => ?_
  refine lw_case C hl0 hZ ⟨h0, by omega⟩ hcs hss R fun h1 R1 => ?_
  refine an_iinc (pc := 1378) (ls1 := lw_ls (i + 6)) aL_1378 rfl rfl rfl (by unfold am_ri; omega) rfl ?_
  exact an_goto (pc := 1381) (tgt := 23) aL_1381 (by decide) (nx (by omega) h1 R1)
theorem lw_loop (C : lw_C s A G b L xs) (hl0 : l.stackTraces = false) (hZ : an_ZZ A s s.heap) (out : ∀ (i : Int) (h : am_H) (cs ss : Nat), cs ≤ 600000 → ss ≤ 7000000 → an_W p l e room_1 s m args below meth c G A cs ss E am_Lw_law lw_Y 1384 (lw_ls i) [] h) : ∀ (n : Nat) (i : Int) (h : am_H) (cs ss : Nat), 0 ≤ i → (L : Int) < i + 6 * (n : Int) + 6 → cs + n ≤ 599999 → ss + 6 * n ≤ 6999994 → RL h 0 148 → an_W p l e room_1 s m args below meth c G A cs ss E am_Lw_law lw_Y 23 (lw_ls i) [] h
  | 0, i, h, cs, ss, h0, h1, h2, h3, R => lw_step C hl0 hZ h0 (by omega) (by omega) R (fun _ => out i h cs ss (by omega) (by omega)) fun z => by omega
  | n + 1, i, h, cs, ss, h0, h1, h2, h3, R => lw_step C hl0 hZ h0 (by omega) (by omega) R (fun _ => out i h cs ss (by omega) (by omega)) fun z g R1 => lw_loop C hl0 hZ out n (i + 6) g (cs + 1) (ss + 6) (by omega) (by omega) (by omega) (by omega) R1
end
