/-! the layouts of the classes' objects, with what they hold -/
def am_at (Y : am_Y) (o : Nat) (L : am_Y) : Prop := ∀ (i : Nat) (y : Nat × Nat), L[i]? = some y → Y[o + i]? = some y
theorem am_at.sub {Y : am_Y} {o : Nat} {L L1 : am_Y} (h : am_at Y o L) (q : Nat) (hs : (L.drop q).take L1.length = L1) : am_at Y (o + q) L1 := by
  intro i y hy
  have hl : i < L1.length := (List.getElem?_eq_some_iff.mp hy).1
  rw [← hs, List.getElem?_take_of_lt hl, List.getElem?_drop] at hy
  rw [Nat.add_assoc]
  exact h _ _ hy
def am_L0 : am_Y := [(0, 0), (15, 210), (14, 210)]
def am_L1 : am_Y := [(1, 0), (14, 384), (14, 384)]
def am_L2 : am_Y := [(2, 0), (14, 60), (14, 8), (14, 8), (14, 8), (1, 0), (14, 384), (14, 384), (14, 48)]
def am_L3 : am_Y := [(3, 0), (8, 0), (14, 1000), (14, 1000), (14, 1000), (2, 0), (14, 60), (14, 8), (14, 8), (14, 8), (1, 0), (14, 384), (14, 384), (14, 48)]
def am_L4 : am_Y := [(4, 0), (14, 48), (14, 48), (14, 8), (14, 48), (14, 8), (14, 8), (14, 8)]
def am_L5 : am_Y := [(5, 0), (14, 8), (14, 8), (9, 0), (14, 6), (14, 6), (14, 6), (14, 8), (14, 8), (14, 48), (14, 64), (14, 64), (14, 48), (14, 48), (14, 8), (14, 8), (1, 0), (14, 384), (14, 384), (0, 0), (15, 210), (14, 210), (15, 384), (15, 384)]
def am_L6 : am_Y := [(6, 0), (8, 0), (14, 1000), (14, 1000), (14, 1000), (14, 40)]
def am_L7 : am_Y := [(7, 0), (9, 0), (14, 6), (14, 6), (14, 6), (14, 8), (14, 8), (14, 48), (14, 64), (14, 64), (14, 48), (14, 48), (2, 0), (14, 60), (14, 8), (14, 8), (14, 8), (1, 0), (14, 384), (14, 384), (14, 48), (14, 8), (14, 8), (13, 200)]
def am_L8 : am_Y := [(8, 0), (14, 1000), (14, 1000), (14, 1000)]
def am_L9 : am_Y := [(9, 0), (14, 6), (14, 6), (14, 6), (14, 8), (14, 8), (14, 48), (14, 64), (14, 64), (14, 48), (14, 48)]
def am_L10 : am_Y := [(10, 0), (8, 0), (14, 1000), (14, 1000), (14, 1000), (9, 0), (14, 6), (14, 6), (14, 6), (14, 8), (14, 8), (14, 48), (14, 64), (14, 64), (14, 48), (14, 48)]
def am_L11 : am_Y := [(11, 0), (13, 940), (7, 0), (9, 0), (14, 6), (14, 6), (14, 6), (14, 8), (14, 8), (14, 48), (14, 64), (14, 64), (14, 48), (14, 48), (2, 0), (14, 60), (14, 8), (14, 8), (14, 8), (1, 0), (14, 384), (14, 384), (14, 48), (14, 8), (14, 8), (13, 200), (17, 2), (7, 0), (9, 0), (14, 6), (14, 6), (14, 6), (14, 8), (14, 8), (14, 48), (14, 64), (14, 64), (14, 48), (14, 48), (2, 0), (14, 60), (14, 8), (14, 8), (14, 8), (1, 0), (14, 384), (14, 384), (14, 48), (14, 8), (14, 8), (13, 200), (7, 0), (9, 0), (14, 6), (14, 6), (14, 6), (14, 8), (14, 8), (14, 48), (14, 64), (14, 64), (14, 48), (14, 48), (2, 0), (14, 60), (14, 8), (14, 8), (14, 8), (1, 0), (14, 384), (14, 384), (14, 48), (14, 8), (14, 8), (13, 200), (10, 0), (8, 0), (14, 1000), (14, 1000), (14, 1000), (9, 0), (14, 6), (14, 6), (14, 6), (14, 8), (14, 8), (14, 48), (14, 64), (14, 64), (14, 48), (14, 48), (3, 0), (8, 0), (14, 1000), (14, 1000), (14, 1000), (2, 0), (14, 60), (14, 8), (14, 8), (14, 8), (1, 0), (14, 384), (14, 384), (14, 48), (6, 0), (8, 0), (14, 1000), (14, 1000), (14, 1000), (14, 40), (0, 0), (15, 210), (14, 210), (5, 0), (14, 8), (14, 8), (9, 0), (14, 6), (14, 6), (14, 6), (14, 8), (14, 8), (14, 48), (14, 64), (14, 64), (14, 48), (14, 48), (14, 8), (14, 8), (1, 0), (14, 384), (14, 384), (0, 0), (15, 210), (14, 210), (15, 384), (15, 384), (4, 0), (14, 48), (14, 48), (14, 8), (14, 48), (14, 8), (14, 8), (14, 8), (14, 8), (14, 8)]
def am_L12 : am_Y := [(12, 0), (14, 940), (14, 840), (14, 325), (14, 240), (14, 1680), (15, 14), (15, 14), (15, 28), (16, 2), (14, 384), (14, 384), (14, 48), (14, 8), (14, 8), (14, 8), (14, 60), (16, 384), (15, 210), (14, 210), (14, 8), (14, 8), (14, 8), (14, 8), (14, 48), (14, 8), (14, 48), (14, 48), (14, 8), (14, 8), (14, 240)]
def am_sub : am_L → am_L → Prop
  | [], _ => True
  | _ :: _, [] => False
  | a :: l', b :: l => (a = none ∨ a = b) ∧ am_sub l' l
theorem am_sub_at : ∀ (l' l : am_L), am_sub l' l → ∀ (i : Nat) (v : am_V), l'[i]? = some (some v) → l[i]? = some (some v)
  | [], _, _, i, v, h => by simp at h
  | a :: l', [], hs, i, v, h => hs.elim
  | a :: l', b :: l, hs, 0, v, h => by
    simp at h
    subst h
    rcases hs.1 with e | e
    · cases e
    · simp [← e]
  | a :: l', b :: l, hs, i + 1, v, h => by
    simpa using am_sub_at l' l hs.2 i v (by simpa using h)
theorem am_wp.sub {M : am_M} {d : Nat} {Y : am_Y} {pc : Nat} {ls ls' : am_L} {st : List am_V} {h : am_H} {Q : Option am_V → am_H → Prop} (k : am_wp M d Y pc ls' st h Q) (hs : am_sub ls' ls) : am_wp M d Y pc ls st h Q := k.less (am_sub_at ls' ls hs)
/-! a call, by what comes back: an int, a long, nothing -/
def am_qI (K : Int → am_H → Prop) : Option am_V → am_H → Prop := fun rv h1 => ∃ x, rv = some (.inl x) ∧ K x h1
def am_qJ (K : Int → am_H → Prop) : Option am_V → am_H → Prop := fun rv h1 => ∃ x, rv = some (.inr (.inl x)) ∧ K x h1
def am_qV (K : am_H → Prop) : Option am_V → am_H → Prop := fun rv h1 => rv = none ∧ K h1
theorem am_qI_s (K : Int → am_H → Prop) (x : Int) (h1 : am_H) : am_qI K (some (.inl x)) h1 = K x h1 := propext ⟨fun ⟨y, e, k⟩ => by cases e; exact k, fun k => ⟨x, rfl, k⟩⟩
theorem am_qJ_s (K : Int → am_H → Prop) (x : Int) (h1 : am_H) : am_qJ K (some (.inr (.inl x))) h1 = K x h1 := propext ⟨fun ⟨y, e, k⟩ => by cases e; exact k, fun k => ⟨x, rfl, k⟩⟩
theorem am_qV_s (K : am_H → Prop) (h1 : am_H) : am_qV K none h1 = K h1 := propext ⟨fun ⟨_, k⟩ => k, fun k => ⟨rfl, k⟩⟩
def am_kI (M : am_M) (d : Nat) (Y : am_Y) (av : List am_V) (h : am_H) (K : Int → am_H → Prop) : Prop := ∃ d', d' < d ∧ am_Met M d' Y av h (am_qI K)
def am_kJ (M : am_M) (d : Nat) (Y : am_Y) (av : List am_V) (h : am_H) (K : Int → am_H → Prop) : Prop := ∃ d', d' < d ∧ am_Met M d' Y av h (am_qJ K)
def am_kV (M : am_M) (d : Nat) (Y : am_Y) (av : List am_V) (h : am_H) (K : am_H → Prop) : Prop := ∃ d', d' < d ∧ am_Met M d' Y av h (am_qV K)
/-- contracts: at depth d, from h, it answers x and leaves h1 with K -/
def am_cI (M : am_M) (d : Nat) (Y : am_Y) (av : List am_V) (h : am_H) (K : Int → am_H → Prop) : Prop := am_Met M d Y av h (am_qI K)
def am_cJ (M : am_M) (d : Nat) (Y : am_Y) (av : List am_V) (h : am_H) (K : Int → am_H → Prop) : Prop := am_Met M d Y av h (am_qJ K)
def am_cV (M : am_M) (d : Nat) (Y : am_Y) (av : List am_V) (h : am_H) (K : am_H → Prop) : Prop := am_Met M d Y av h (am_qV K)
theorem am_kI.of {M : am_M} {d d' : Nat} {Y : am_Y} {av : List am_V} {h : am_H} {K K' : Int → am_H → Prop} (c : am_cI M d' Y av h K') (hd : d' < d) (hK : ∀ x h1, am_ok Y h1 → am_ri x → K' x h1 → K x h1) : am_kI M d Y av h K :=
  ⟨d', hd, am_Met.mono c fun r h1 ho hr hq => by
    obtain ⟨x, rfl, hx⟩ := hq
    exact ⟨x, rfl, hK x h1 ho (hr _ rfl) hx⟩⟩
theorem am_kJ.of {M : am_M} {d d' : Nat} {Y : am_Y} {av : List am_V} {h : am_H} {K K' : Int → am_H → Prop} (c : am_cJ M d' Y av h K') (hd : d' < d) (hK : ∀ x h1, am_ok Y h1 → am_rl x → K' x h1 → K x h1) : am_kJ M d Y av h K :=
  ⟨d', hd, am_Met.mono c fun r h1 ho hr hq => by
    obtain ⟨x, rfl, hx⟩ := hq
    exact ⟨x, rfl, hK x h1 ho (hr _ rfl) hx⟩⟩
theorem am_kV.of {M : am_M} {d d' : Nat} {Y : am_Y} {av : List am_V} {h : am_H} {K K' : am_H → Prop} (c : am_cV M d' Y av h K') (hd : d' < d) (hK : ∀ h1, am_ok Y h1 → K' h1 → K h1) : am_kV M d Y av h K :=
  ⟨d', hd, am_Met.mono c fun r h1 ho hr hq => ⟨hq.1, hK h1 ho hq.2⟩⟩
section
variable {M M' : am_M} {d : Nat} {Y : am_Y} {pc : Nat} {ls : am_L} {st st0 : List am_V} {h : am_H} {Q : Option am_V → am_H → Prop}
theorem am_vI {o k nn idx n : Nat} {As : List am_V} {K : Int → am_H → Prop} (hd : decode M.2.1 pc = .ok (.invokevirtual idx, 3)) (hw : am_cv M' n) (hl : Cond.methodLink M.1.cls idx M'.1 ∈ am_ws) (hn : As.length = n) (hst : st0 = As.reverse ++ .inr (.inr o) :: st) (hrs : am_rs st ≤ 8)
    (hc : ∃ (T : u_T) (N : Nat), k < 13 ∧ am_cl[k]? = some (M'.1.cls, T, N)) (hY : Y[o]? = some (k, nn)) (hM : am_kI M' d Y (.inr (.inr o) :: As) h K) (kk : ∀ x h1, K x h1 → am_wp M d Y (pc + 3) ls (.inl x :: st) h1 Q) : am_wp M d Y pc ls st0 h Q := by
  obtain ⟨d', hdd, hm⟩ := hM
  exact am_callV hd hw hl hdd hn hst hrs hc hY hm (fun rv h1 hq => by
    obtain ⟨x, rfl, hx⟩ := hq
    exact kk x h1 hx)
theorem am_sI {idx n : Nat} {As : List am_V} {K : Int → am_H → Prop} (hd : decode M.2.1 pc = .ok (.invokestatic idx, 3)) (hw : am_cs_ M' n) (hl : Cond.methodLink M.1.cls idx M'.1 ∈ am_ws) (hn : As.length = n) (hst : st0 = As.reverse ++ st) (hrs : am_rs st ≤ 8)
    (hM : am_kI M' d Y As h K) (kk : ∀ x h1, K x h1 → am_wp M d Y (pc + 3) ls (.inl x :: st) h1 Q) : am_wp M d Y pc ls st0 h Q := by
  obtain ⟨d', hdd, hm⟩ := hM
  exact am_callS hd hw hl hdd hn hst hrs hm (fun rv h1 hq => by
    obtain ⟨x, rfl, hx⟩ := hq
    exact kk x h1 hx)
theorem am_snI {idx n : Nat} {As : List am_V} {K : Int → am_H → Prop} (hd : decode M.2.1 pc = .ok (.invokestatic idx, 3)) (hw : am_cs_ M' n) (hl : Cond.methodLinkNest M.1.cls idx M'.1 "NightHelp" ∈ am_wn) (hn : As.length = n) (hst : st0 = As.reverse ++ st) (hrs : am_rs st ≤ 8)
    (hM : am_kI M' d Y As h K) (kk : ∀ x h1, K x h1 → am_wp M d Y (pc + 3) ls (.inl x :: st) h1 Q) : am_wp M d Y pc ls st0 h Q := by
  obtain ⟨d', hdd, hm⟩ := hM
  exact am_callSN hd hw hl hdd hn hst hrs hm (fun rv h1 hq => by
    obtain ⟨x, rfl, hx⟩ := hq
    exact kk x h1 hx)
theorem am_vJ {o k nn idx n : Nat} {As : List am_V} {K : Int → am_H → Prop} (hd : decode M.2.1 pc = .ok (.invokevirtual idx, 3)) (hw : am_cv M' n) (hl : Cond.methodLink M.1.cls idx M'.1 ∈ am_ws) (hn : As.length = n) (hst : st0 = As.reverse ++ .inr (.inr o) :: st) (hrs : am_rs st ≤ 8)
    (hc : ∃ (T : u_T) (N : Nat), k < 13 ∧ am_cl[k]? = some (M'.1.cls, T, N)) (hY : Y[o]? = some (k, nn)) (hM : am_kJ M' d Y (.inr (.inr o) :: As) h K) (kk : ∀ x h1, K x h1 → am_wp M d Y (pc + 3) ls (.inr (.inl x) :: st) h1 Q) : am_wp M d Y pc ls st0 h Q := by
  obtain ⟨d', hdd, hm⟩ := hM
  exact am_callV hd hw hl hdd hn hst hrs hc hY hm (fun rv h1 hq => by
    obtain ⟨x, rfl, hx⟩ := hq
    exact kk x h1 hx)
theorem am_sJ {idx n : Nat} {As : List am_V} {K : Int → am_H → Prop} (hd : decode M.2.1 pc = .ok (.invokestatic idx, 3)) (hw : am_cs_ M' n) (hl : Cond.methodLink M.1.cls idx M'.1 ∈ am_ws) (hn : As.length = n) (hst : st0 = As.reverse ++ st) (hrs : am_rs st ≤ 8)
    (hM : am_kJ M' d Y As h K) (kk : ∀ x h1, K x h1 → am_wp M d Y (pc + 3) ls (.inr (.inl x) :: st) h1 Q) : am_wp M d Y pc ls st0 h Q := by
  obtain ⟨d', hdd, hm⟩ := hM
  exact am_callS hd hw hl hdd hn hst hrs hm (fun rv h1 hq => by
    obtain ⟨x, rfl, hx⟩ := hq
    exact kk x h1 hx)
theorem am_snJ {idx n : Nat} {As : List am_V} {K : Int → am_H → Prop} (hd : decode M.2.1 pc = .ok (.invokestatic idx, 3)) (hw : am_cs_ M' n) (hl : Cond.methodLinkNest M.1.cls idx M'.1 "NightHelp" ∈ am_wn) (hn : As.length = n) (hst : st0 = As.reverse ++ st) (hrs : am_rs st ≤ 8)
    (hM : am_kJ M' d Y As h K) (kk : ∀ x h1, K x h1 → am_wp M d Y (pc + 3) ls (.inr (.inl x) :: st) h1 Q) : am_wp M d Y pc ls st0 h Q := by
  obtain ⟨d', hdd, hm⟩ := hM
  exact am_callSN hd hw hl hdd hn hst hrs hm (fun rv h1 hq => by
    obtain ⟨x, rfl, hx⟩ := hq
    exact kk x h1 hx)
theorem am_vV {o k nn idx n : Nat} {As : List am_V} {K : am_H → Prop} (hd : decode M.2.1 pc = .ok (.invokevirtual idx, 3)) (hw : am_cv M' n) (hl : Cond.methodLink M.1.cls idx M'.1 ∈ am_ws) (hn : As.length = n) (hst : st0 = As.reverse ++ .inr (.inr o) :: st) (hrs : am_rs st ≤ 8)
    (hc : ∃ (T : u_T) (N : Nat), k < 13 ∧ am_cl[k]? = some (M'.1.cls, T, N)) (hY : Y[o]? = some (k, nn)) (hM : am_kV M' d Y (.inr (.inr o) :: As) h K) (kk : ∀ h1, K h1 → am_wp M d Y (pc + 3) ls st h1 Q) : am_wp M d Y pc ls st0 h Q := by
  obtain ⟨d', hdd, hm⟩ := hM
  exact am_callV hd hw hl hdd hn hst hrs hc hY hm (fun rv h1 hq => by
    obtain ⟨rfl, hx⟩ := hq
    exact kk h1 hx)
theorem am_sV {idx n : Nat} {As : List am_V} {K : am_H → Prop} (hd : decode M.2.1 pc = .ok (.invokestatic idx, 3)) (hw : am_cs_ M' n) (hl : Cond.methodLink M.1.cls idx M'.1 ∈ am_ws) (hn : As.length = n) (hst : st0 = As.reverse ++ st) (hrs : am_rs st ≤ 8)
    (hM : am_kV M' d Y As h K) (kk : ∀ h1, K h1 → am_wp M d Y (pc + 3) ls st h1 Q) : am_wp M d Y pc ls st0 h Q := by
  obtain ⟨d', hdd, hm⟩ := hM
  exact am_callS hd hw hl hdd hn hst hrs hm (fun rv h1 hq => by
    obtain ⟨rfl, hx⟩ := hq
    exact kk h1 hx)
theorem am_snV {idx n : Nat} {As : List am_V} {K : am_H → Prop} (hd : decode M.2.1 pc = .ok (.invokestatic idx, 3)) (hw : am_cs_ M' n) (hl : Cond.methodLinkNest M.1.cls idx M'.1 "NightHelp" ∈ am_wn) (hn : As.length = n) (hst : st0 = As.reverse ++ st) (hrs : am_rs st ≤ 8)
    (hM : am_kV M' d Y As h K) (kk : ∀ h1, K h1 → am_wp M d Y (pc + 3) ls st h1 Q) : am_wp M d Y pc ls st0 h Q := by
  obtain ⟨d', hdd, hm⟩ := hM
  exact am_callSN hd hw hl hdd hn hst hrs hm (fun rv h1 hq => by
    obtain ⟨rfl, hx⟩ := hq
    exact kk h1 hx)
def am_ls_ (K : Nat → Prop) (x : Int) (pc : Nat) : List (Int × Int) → Prop
  | [] => True
  | q :: l => (x = q.1 → K ((pc : Int) + q.2).toNat) ∧ am_ls_ K x pc l
theorem am_ls_at {K : Nat → Prop} {x dflt : Int} {pc : Nat} : ∀ (l : List (Int × Int)), (l.all (fun q => decide (0 ≤ (pc : Int) + q.2)) = true) → am_ls_ K x pc l → 0 ≤ (pc : Int) + dflt → ((∀ q ∈ l, x ≠ q.1) → K ((pc : Int) + dflt).toNat) → ∃ off, Op.lookupswitch.offset l dflt x = off ∧ 0 ≤ (pc : Int) + off ∧ K ((pc : Int) + off).toNat
  | [], _, _, h0, hd => ⟨dflt, rfl, h0, hd (fun q hq => by simp at hq)⟩
  | (a, o) :: l, ha, hs, h0, hd => by
    rw [Op.lookupswitch.offset_cons]
    by_cases e : x = a
    · subst e
      refine ⟨o, by simp, ?_, hs.1 rfl⟩
      simpa using (List.all_eq_true.mp ha (x, o) List.mem_cons_self)
    · have e2 : ¬ a = x := fun z => e z.symm
      obtain ⟨off, h1, h2, h3⟩ := am_ls_at l (by simp only [List.all_cons, Bool.and_eq_true] at ha; exact ha.2) hs.2 h0 (fun hq => hd (fun q hm => by
        rcases List.mem_cons.mp hm with rfl | hm
        · exact e
        · exact hq q hm))
      exact ⟨off, by simpa [e, e2] using h1, h2, h3⟩
theorem am_lsw {x dflt : Int} {ps : Array (Int × Int)} {len : Nat} (hd : decode M.2.1 pc = .ok (.lookupswitch dflt ps, len)) (hp : (ps.toList.zip (ps.toList.drop 1)).all (fun (a, next) => a.1 < next.1) = true) (hpos : ps.toList.all (fun q => decide (0 ≤ (pc : Int) + q.2)) = true) (hpd : 0 ≤ (pc : Int) + dflt) (kd : (∀ q ∈ ps.toList, x ≠ q.1) → am_wp M d Y ((pc : Int) + dflt).toNat ls st h Q) (ks : am_ls_ (fun t => am_wp M d Y t ls st h Q) x pc ps.toList) : am_wp M d Y pc ls (.inl x :: st) h Q := by
  intro p l e s m args below meth c G A H locs r X hP hD hS ho hl hs hr
  have hx : am_ri x := am_hd hs
  obtain ⟨off, h1, h2, h3⟩ := am_ls_at _ hpos ks hpd kd
  exact lv_lookup (off := off) X.1 X.2.1 hd hp (by rw [am_i hx]; exact h1) (tgt := ((pc : Int) + off).toNat) (by omega) (h3 p l e s m args below meth c G A H locs r X hP hD hS ho hl (am_tl hs) hr)
end
