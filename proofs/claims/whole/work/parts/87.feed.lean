/-! bytes of a number; feed, end, fault -/
theorem by_k (X : BitVec 32) {k : Nat} (hk : k ≤ 24) : (X.sshiftRight k).signExtend 8 = ((X >>> k) &&& 255#32).setWidth 8 := by
  apply BitVec.eq_of_getLsbD_eq
  intro i hi
  have o : ∀ i : Fin 8, (255#32).getLsbD i.val = true := by decide +kernel
  have oi := o ⟨i, hi⟩
  dsimp only at oi
  rw [BitVec.getLsbD_signExtend, BitVec.getLsbD_setWidth, BitVec.getLsbD_and, oi, BitVec.getLsbD_ushiftRight, BitVec.getLsbD_sshiftRight]
  have a1 : i < 32 := by omega
  have a2 : k + i < 32 := by omega
  have a3 : ¬ 32 ≤ i := by omega
  simp [hi, a1, a2, a3]
/-- a signed byte beside the same byte -/
def bsu (s u : Int) : Prop := 0 ≤ u ∧ u < 256 ∧ (u < 128 → s = u) ∧ (128 ≤ u → s = u - 256)
theorem by_su {w s : Int} (k : Nat) (hk : k ≤ 24) (e1 : ((Int32.ofInt s &&& 31).toBitVec.smod 32).toNat = k) (e2 : (UInt32.mod ((Int32.ofInt s).toUInt32 &&& Int32.toUInt32 31) 32).toBitVec.toNat = k) : bsu (am_b (am_shr w s)) (am_and (am_ushr w s) 255) := by
  have s1 : am_b (am_shr w s) = (((Int32.ofInt w).toBitVec.sshiftRight k).signExtend 8).toInt := by
    unfold am_b am_shr
    rw [Int32.ofInt_toInt, Int8.toInt_toInt32]
    show ((BitVec.sshiftRight (Int32.ofInt w).toBitVec ((Int32.ofInt s &&& 31).toBitVec.smod 32).toNat).signExtend 8).toInt = _
    rw [e1]
  have s2 : am_and (am_ushr w s) 255 = (((Int32.ofInt w).toBitVec >>> k) &&& 255#32).toInt := by
    unfold am_and am_ushr
    rw [Int32.ofInt_toInt]
    show (((Int32.ofInt w).toBitVec >>> (UInt32.mod ((Int32.ofInt s).toUInt32 &&& Int32.toUInt32 31) 32).toBitVec.toNat) &&& 255#32).toInt = _
    rw [e2]
  rw [s1, s2, by_k _ hk]
  generalize ((Int32.ofInt w).toBitVec >>> k) = X
  have lt : (X &&& 255#32).toNat < 256 := by
    have h1 : (X &&& 255#32).toNat = X.toNat &&& 255 := by rw [BitVec.toNat_and]; rfl
    have h2 : X.toNat &&& 255 ≤ 255 := Nat.and_le_right
    omega
  have t1 : (X &&& 255#32).toInt = ((X &&& 255#32).toNat : Int) := BitVec.toInt_eq_toNat_of_lt (by omega)
  have t2 : ((X &&& 255#32).setWidth 8).toNat = (X &&& 255#32).toNat := by
    rw [BitVec.toNat_setWidth]
    omega
  rw [t1, BitVec.toInt_eq_toNat_cond, t2]
  unfold bsu
  generalize (X &&& 255#32).toNat = z at lt
  split
  · omega
  · omega
def nbC (w : Int) : List Int := [am_b (am_shr w 24), am_b (am_shr w 16), am_b (am_shr w 8), am_b (am_shr w 0)]
def nbM (w : Int) : List Int := [am_and (am_ushr w 24) 255, am_and (am_ushr w 16) 255, am_and (am_ushr w 8) 255, am_and (am_ushr w 0) 255]
def lsu : List Int → List Int → Prop
  | [], [] => True
  | a :: r, b :: t => bsu a b ∧ lsu r t
  | _, _ => False
theorem lsu_B (w : Int) : lsu (nbC w) (nbM w) :=
  ⟨by_su 24 (by omega) (by decide +kernel) (by decide +kernel), by_su 16 (by omega) (by decide +kernel) (by decide +kernel), by_su 8 (by omega) (by decide +kernel) (by decide +kernel), by_su 0 (by omega) (by decide +kernel) (by decide +kernel), trivial⟩
theorem lsu_app : ∀ {a b c e : List Int}, lsu a b → lsu c e → lsu (a ++ c) (b ++ e)
  | [], [], _, _, _, h => h
  | _ :: _, _ :: _, _, _, h, g => ⟨h.1, lsu_app h.2 g⟩
  | [], _ :: _, _, _, h, _ => h.elim
  | _ :: _, [], _, _, h, _ => h.elim
theorem lsu_len : ∀ {a b : List Int}, lsu a b → a.length = b.length
  | [], [], _ => rfl
  | _ :: _, _ :: _, h => by rw [List.length_cons, List.length_cons, lsu_len h.2]
  | [], _ :: _, h => h.elim
  | _ :: _, [], h => h.elim
theorem lsu_at : ∀ {a b : List Int}, lsu a b → ∀ (i : Nat) (x y : Int), a[i]? = some x → b[i]? = some y → bsu x y
  | _ :: _, _ :: _, h, 0, x, y, e, f => by
    simp only [List.getElem?_cons_zero, Option.some.injEq] at e f
    subst e
    subst f
    exact h.1
  | _ :: _, _ :: _, h, i + 1, x, y, e, f => by
    simp only [List.getElem?_cons_succ] at e f
    exact lsu_at h.2 i x y e f
  | [], _, _, i, x, y, e, f => by simp at e
  | _ :: _, [], h, _, _, _, _, _ => h.elim
/-- a row r with its count in cell c of o: so much has been added -/
def apd (h h1 : am_H) (o c r n : Nat) (l : List Int) : Prop := (∀ q, q ≠ o → q ≠ r → h1 q = h q) ∧ h1 o c = ((n + l.length : Nat) : Int) ∧ (∀ j, j ≠ c → h1 o j = h o j) ∧ (∀ (i : Nat) (v : Int), l[i]? = some v → h1 r (n + i) = v) ∧ ∀ i, i < n → h1 r i = h r i
theorem apd.app {h h1 h2 : am_H} {o c r n : Nat} {l l' : List Int} (a : apd h h1 o c r n l) (b : apd h1 h2 o c r (n + l.length) l') : apd h h2 o c r n (l ++ l') := by
  obtain ⟨a1, a2, a3, a4, a5⟩ := a
  obtain ⟨b1, b2, b3, b4, b5⟩ := b
  refine ⟨fun q p s => (b1 q p s).trans (a1 q p s), by rw [b2, List.length_append, Nat.add_assoc], fun j hj => (b3 j hj).trans (a3 j hj), fun i v hv => ?_, fun i hi => (b5 i (by omega)).trans (a5 i hi)⟩
  by_cases hi : i < l.length
  · rw [List.getElem?_append_left hi] at hv
    rw [b5 (n + i) (by omega)]
    exact a4 i v hv
  · rw [List.getElem?_append_right (by omega)] at hv
    have := b4 (i - l.length) v hv
    rw [show n + l.length + (i - l.length) = n + i from by omega] at this
    exact this
theorem apd.one {h h1 h2 : am_H} {o c r n : Nat} {v : Int} (hn : h o c = (n : Int)) (ne : r ≠ o) (e1 : h1 = am_u h r (h o c).toNat v) (e2 : h2 = am_u h1 o c (h1 o c + 1)) : apd h h2 o c r n [v] := by
  have t : (h o c).toNat = n := by omega
  rw [t] at e1
  have q1 : h1 o = h o := by rw [e1, am_u_n _ _ _ _ _ (Ne.symm ne)]
  have r2 : h2 r = h1 r := by rw [e2, am_u_n _ _ _ _ _ ne]
  refine ⟨fun q p s => by rw [e2, am_u_n _ _ _ _ _ p, e1, am_u_n _ _ _ _ _ s], ?_, fun j hj => by rw [e2, am_u_j hj, q1], fun i w hw => ?_, fun i hi => by rw [r2, e1, am_u_j (by omega)]⟩
  · rw [e2, am_u_s, q1, hn]
    simp
  · cases i with
    | zero =>
      simp only [List.getElem?_cons_zero, Option.some.injEq] at hw
      rw [r2, e1, Nat.add_zero, am_u_s]
      exact hw
    | succ i => simp at hw
section
variable {d : Nat} {Y : am_Y} {h h1 h2 : am_H} {x m n : Nat}
theorem put_step {w y2 : Int} {Q : Option am_V → am_H → Prop} (hY : am_at Y x am_L11) (hn : h x 1 = (n : Int)) (hl : n < 940) (hy : 0 ≤ y2 ∧ y2 ≤ 24) (hb : -128 ≤ am_b (am_shr w y2) ∧ am_b (am_shr w y2) < 128) (k : ∀ h1, apd h h1 x 1 (x + 1) n [am_b (am_shr w y2)] → am_wp am_Nh_putNumber d Y 3 [some (.inr (.inr x)), some (.inl w), some (.inl (y2 + (-8)))] [] h1 Q) : am_wp am_Nh_putNumber d Y 3 [some (.inr (.inr x)), some (.inl w), some (.inl y2)] [] h Q := by
  refine ab_Nh_putNumber_3 hY ⟨fun z => by omega, fun _ => ⟨fun z => by omega, fun _ => ⟨⟨by omega, by omega⟩, hb, fun h1 e1 => ?_⟩⟩⟩
  have q1 : h1 x = h x := by rw [e1, am_u_n _ _ _ _ _ (by omega)]
  refine ⟨by rw [q1, hn]; unfold am_ri; omega, fun h2 e2 => ⟨by unfold am_ri; omega, k h2 (apd.one hn (by omega) e1 e2)⟩⟩
theorem bsu_rg {s u : Int} (h : bsu s u) : -128 ≤ s ∧ s < 128 := by
  unfold bsu at h
  omega
theorem ac_N_put {w : Int} (hY : am_at Y x am_L11) (hn : h x 1 = (n : Int)) (hl : n + 4 ≤ 940) : am_cV am_Nh_putNumber d Y [.inr (.inr x), .inl w] h (fun h1 => apd h h1 x 1 (x + 1) n (nbC w)) := by
  obtain ⟨b1, b2, b3, b4, -⟩ := lsu_B w
  refine am_Met.of (by decide) rfl (Nat.le_of_ble_eq_true rfl) (ab_Nh_putNumber_0 hY ?_)
  refine put_step (n := n) hY hn (by omega) (by omega) (bsu_rg b1) fun h1 a1 => ?_
  refine put_step (n := n + 1) (y2 := 16) hY a1.2.1 (by omega) (by omega) (bsu_rg b2) fun h2 a2 => ?_
  refine put_step (n := n + 2) (y2 := 8) hY a2.2.1 (by omega) (by omega) (bsu_rg b3) fun h3 a3 => ?_
  refine put_step (n := n + 3) (y2 := 0) hY a3.2.1 (by omega) (by omega) (bsu_rg b4) fun h4 a4 => ?_
  refine ab_Nh_putNumber_3 hY ⟨fun _ => ?_, fun z => absurd z (by decide)⟩
  rw [am_qV_s]
  exact ((a1.app a2).app a3).app a4
theorem come_step {w y2 : Int} {Q : Option am_V → am_H → Prop} (hM : am_at Y m am_L12) (hn : h m 2 = (n : Int)) (hl : n < 940) (hy : 0 ≤ y2 ∧ y2 ≤ 24) (k : ∀ h1, apd h h1 m 2 (m + 1) n [am_and (am_ushr w y2) 255] → am_wp am_Md_come d Y 3 [some (.inr (.inr m)), some (.inl w), some (.inl (y2 + (-8)))] [] h1 Q) : am_wp am_Md_come d Y 3 [some (.inr (.inr m)), some (.inl w), some (.inl y2)] [] h Q := by
  refine ab_Md_come_3 hM ⟨fun z => by omega, fun _ => ⟨⟨by omega, by omega⟩, fun h1 e1 => ?_⟩⟩
  have q1 : h1 m = h m := by rw [e1, am_u_n _ _ _ _ _ (by omega)]
  refine ⟨by rw [q1, hn]; unfold am_ri; omega, fun h2 e2 => ⟨by unfold am_ri; omega, k h2 (apd.one hn (by omega) e1 e2)⟩⟩
theorem ac_m_come {w : Int} (hM : am_at Y m am_L12) (hn : h m 2 = (n : Int)) (hl : n + 4 ≤ 940) : am_cV am_Md_come d Y [.inr (.inr m), .inl w] h (fun h1 => apd h h1 m 2 (m + 1) n (nbM w)) := by
  refine am_Met.of (by decide) rfl (Nat.le_of_ble_eq_true rfl) (ab_Md_come_0 hM ?_)
  refine come_step (n := n) hM hn (by omega) (by omega) fun h1 a1 => ?_
  refine come_step (n := n + 1) (y2 := 16) hM a1.2.1 (by omega) (by omega) fun h2 a2 => ?_
  refine come_step (n := n + 2) (y2 := 8) hM a2.2.1 (by omega) (by omega) fun h3 a3 => ?_
  refine come_step (n := n + 3) (y2 := 0) hM a3.2.1 (by omega) (by omega) fun h4 a4 => ?_
  refine ab_Md_come_3 hM ⟨fun _ => ?_, fun z => absurd z (by decide)⟩
  rw [am_qV_s]
  exact ((a1.app a2).app a3).app a4
theorem ac_N_feed {a b c e f : Int} (hY : am_at Y x am_L11) (hn : h x 1 = (n : Int)) (hl : n ≤ 940) : am_cI am_Nh_feed (d + 1) Y [.inr (.inr x), .inl a, .inl b, .inl c, .inl e, .inl f] h (fun v h1 => (n + 20 ≤ 940 → v = ((n + 20 : Nat) : Int) ∧ apd h h1 x 1 (x + 1) n ((((nbC a ++ nbC b) ++ nbC c) ++ nbC e) ++ nbC f)) ∧ (¬ n + 20 ≤ 940 → v = -1 ∧ h1 = h)) := by
  refine am_Met.of (by decide) rfl (Nat.le_of_ble_eq_true rfl) (ab_Nh_feed_0 hY ⟨by rw [hn]; unfold am_ri; omega, fun z => ?_, fun z => ?_⟩)
  · have z' : n + 20 ≤ 940 := by omega
    refine am_kV.of (ac_N_put (d := 0) (n := n) hY hn (by omega)) (by omega) fun h1 _ a1 => ?_
    refine am_kV.of (ac_N_put (d := 0) (n := n + 4) hY a1.2.1 (by omega)) (by omega) fun h2 _ a2 => ?_
    refine am_kV.of (ac_N_put (d := 0) (n := n + 8) hY a2.2.1 (by omega)) (by omega) fun h3 _ a3 => ?_
    refine am_kV.of (ac_N_put (d := 0) (n := n + 12) hY a3.2.1 (by omega)) (by omega) fun h4 _ a4 => ?_
    refine am_kV.of (ac_N_put (d := 0) (n := n + 16) hY a4.2.1 (by omega)) (by omega) fun h5 _ a5 => ?_
    rw [am_qI_s]
    exact ⟨fun _ => ⟨a5.2.1, (((a1.app a2).app a3).app a4).app a5⟩, fun w => absurd z' w⟩
  · rw [am_qI_s]
    exact ⟨fun w => by omega, fun _ => ⟨rfl, rfl⟩⟩
theorem ac_m_feed {a b c e f : Int} (hM : am_at Y m am_L12) (hn : h m 2 = (n : Int)) (hl : n ≤ 940) : am_cI am_Md_feed (d + 1) Y [.inr (.inr m), .inl a, .inl b, .inl c, .inl e, .inl f] h (fun v h1 => (n + 20 ≤ 940 → v = ((n + 20 : Nat) : Int) ∧ apd (am_u h m 0 0) h1 m 2 (m + 1) n ((((nbM a ++ nbM b) ++ nbM c) ++ nbM e) ++ nbM f)) ∧ (¬ n + 20 ≤ 940 → v = -1 ∧ h1 = am_u h m 0 0)) := by
  refine am_Met.of (by decide) rfl (Nat.le_of_ble_eq_true rfl) (ab_Md_feed_0 hM ?_)
  rintro g rfl
  have hn' : am_u h m 0 0 m 2 = (n : Int) := by rw [am_u_j (by omega)]; exact hn
  refine ⟨by rw [hn']; unfold am_ri; omega, fun z => ?_, fun z => ?_⟩
  · rw [hn'] at z
    have z' : n + 20 ≤ 940 := by omega
    refine am_kV.of (ac_m_come (d := 0) (n := n) hM hn' (by omega)) (by omega) fun h1 _ a1 => ?_
    refine am_kV.of (ac_m_come (d := 0) (n := n + 4) hM a1.2.1 (by omega)) (by omega) fun h2 _ a2 => ?_
    refine am_kV.of (ac_m_come (d := 0) (n := n + 8) hM a2.2.1 (by omega)) (by omega) fun h3 _ a3 => ?_
    refine am_kV.of (ac_m_come (d := 0) (n := n + 12) hM a3.2.1 (by omega)) (by omega) fun h4 _ a4 => ?_
    refine am_kV.of (ac_m_come (d := 0) (n := n + 16) hM a4.2.1 (by omega)) (by omega) fun h5 _ a5 => ?_
    rw [am_qI_s]
    exact ⟨fun _ => ⟨a5.2.1, (((a1.app a2).app a3).app a4).app a5⟩, fun w => absurd z' w⟩
  · rw [hn'] at z
    rw [am_qI_s]
    exact ⟨fun w => by omega, fun _ => ⟨rfl, rfl⟩⟩
/-- only the tapes are others -/
theorem RL.tape (c : RL h x m) (fx : ∀ j, j = 13 ∨ j = 14 → h2 x j = h x j) (fq : ∀ q, x + 2 ≤ q → q < x + 148 → h2 q = h q) (gq : ∀ q, m + 2 ≤ q → h2 q = h q) (gj : ∀ j, j ≠ 0 → j ≠ 2 → h2 m j = h m j) (t : tpR h2 x m) : RL h2 x m := by
  obtain ⟨ct, cs, ck, cr, cl, ch⟩ := c
  refine ⟨t, ?_, ck.but (fun q a b => fq q (by omega) (by omega)) (gq _ (by omega)) (gq _ (by omega)) (gq _ (by omega)), cr.but (fun q a b => fq q (by omega) (by omega)) (gq _ (by omega)) (gq _ (by omega)) (fun j hj => gj j (by omega) (by omega)), cl.but (fun q a b => fq q (by omega) (by omega)) (gq _ (by omega)) (gj _ (by omega) (by omega)), ch.but (fun j hj => fx j (by omega)) (fq _ (by omega) (by omega)) (gq _ (by omega)) (fun j hj => gj j (by omega) (by omega))⟩
  rw [lai_u (gq (m + 2) (by omega)) (gj 22 (by omega) (by omega)), gq (m + 6) (by omega)]
  exact cs.but fun q a b => fq q (by omega) (by omega)
theorem yF0 (e : h1 = am_u h m 0 0) : (∀ q, q < m → h1 q = h q) ∧ yFr h h1 m := by
  have n0 : ∀ q, q ≠ m → h1 q = h q := fun q hq => by rw [e, am_u_n _ _ _ _ _ hq]
  have j0 : ∀ j, j ≠ 0 → h1 m j = h m j := fun j hj => by rw [e, am_u_j hj]
  exact ⟨fun q hq => n0 q (by omega), lai_u (n0 _ (by omega)) (j0 22 (by omega)), fun q hq => n0 q (by omega), fun j hj => j0 j (by omega)⟩
theorem two_feed {a b c0 e f : Int} (hY : am_at Y x am_L11) (hM : am_at Y m am_L12) (dis : x + 148 ≤ m) (c : RL h x m) : am_two am_Nh_feed am_Md_feed Y x m [.inl a, .inl b, .inl c0, .inl e, .inl f] h := by
  obtain ⟨t1, t2, t3, t4⟩ := c.1
  have hn : ((h m 2).toNat : Int) = h m 2 := by omega
  generalize (h m 2).toNat = n at hn t3
  refine am_cI.mono (ac_N_feed (d := 59) (n := n) hY (by omega) (by omega)) ?_
  rintro v h1 - - ⟨o1, o2⟩
  by_cases z : n + 20 ≤ 940
  · obtain ⟨rfl, f1, f2, f3, f4, f5⟩ := o1 z
    have e1 : ∀ q, m ≤ q → h1 q = h q := fun q hq => f1 q (by omega) (by omega)
    refine am_cI.mono (ac_m_feed (d := 59) (n := n) hM (by rw [e1 m (by omega)]; omega) (by omega)) ?_
    rintro w h2 - - ⟨o3, -⟩
    obtain ⟨rfl, g1, g2, g3, g4, g5⟩ := o3 z
    have lo : ∀ q, q < m → h2 q = h1 q := fun q hq => by rw [g1 q (by omega) (by omega), am_u_n _ _ _ _ _ (by omega)]
    have ls := lsu_app (lsu_app (lsu_app (lsu_app (lsu_B a) (lsu_B b)) (lsu_B c0)) (lsu_B e)) (lsu_B f)
    have hx1 : h2 x 1 = ((n + 20 : Nat) : Int) := by rw [lo x (by omega)]; exact f2
    have hm2 : h2 m 2 = ((n + 20 : Nat) : Int) := g2
    refine ⟨rfl, c.tape (fun j hj => by rw [lo x (by omega), f3 j (by omega)]) (fun q a b => by rw [lo q (by omega), f1 q (by omega) (by omega)]) (fun q a => by rw [g1 q (by omega) (by omega), am_u_n _ _ _ _ _ (by omega), e1 q (by omega)]) (fun j a b => by rw [g3 j b, am_u_j a, e1 m (by omega)]) ⟨by rw [hx1, hm2], by omega, ?_, ?_⟩⟩
    · rw [hm2, Int.toNat_natCast, lo (x + 1) (by omega)]
      intro i hi
      by_cases hi2 : i < n
      · rw [f5 i hi2, g5 i hi2, am_u_n _ _ _ _ _ (by omega), e1 (m + 1) (by omega)]
        exact t3 i hi2
      · have k1 : i - n < ((((nbC a ++ nbC b) ++ nbC c0) ++ nbC e) ++ nbC f).length := by
          show i - n < 20
          omega
        have k2 : i - n < ((((nbM a ++ nbM b) ++ nbM c0) ++ nbM e) ++ nbM f).length := by
          show i - n < 20
          omega
        have p1 := f4 (i - n) _ (List.getElem?_eq_getElem k1)
        have p2 := g4 (i - n) _ (List.getElem?_eq_getElem k2)
        have p3 := lsu_at ls (i - n) _ _ (List.getElem?_eq_getElem k1) (List.getElem?_eq_getElem k2)
        rw [show n + (i - n) = i from by omega] at p1 p2
        rw [p1, p2]
        exact p3
    · rw [lo x (by omega), f3 2 (by omega), g3 10 (by omega), am_u_j (by omega), e1 m (by omega)]
      exact t4
  · obtain ⟨rfl, rfl⟩ := o2 z
    refine am_cI.mono (ac_m_feed (d := 59) (n := n) hM (by omega) (by omega)) ?_
    rintro w h2 - - ⟨-, o3⟩
    obtain ⟨rfl, e3⟩ := o3 z
    obtain ⟨q1, q2⟩ := yF0 e3
    exact ⟨rfl, c.but (xFr.refl.two dis q1) q2⟩
theorem two_end {a : Int} (hY : am_at Y x am_L11) (hM : am_at Y m am_L12) (dis : x + 148 ≤ m) (c : RL h x m) : am_two am_Nh_end am_Md_end Y x m [.inl a] h := by
  obtain ⟨t1, t2, t3, t4⟩ := c.1
  have nul : ∀ h2, h2 = am_u h m 0 0 → RL h2 x m := fun h2 e => c.but (xFr.refl.two dis (yF0 e).1) (yF0 e).2
  refine am_Met.of (by decide) rfl (Nat.le_of_ble_eq_true rfl) (ab_Nh_end_0 hY ⟨fun z => ?_, fun z => ⟨fun z2 h1 e1 => ?_, fun z2 => ?_⟩⟩)
  · rw [am_qI_s]
    refine am_Met.of (by decide) rfl (Nat.le_of_ble_eq_true rfl) (ab_Md_end_0 hM fun h2 e2 => ⟨fun _ => ?_, fun w => by omega⟩)
    rw [am_qI_s]
    exact ⟨rfl, nul h2 e2⟩
  · rw [am_qI_s]
    have n1 : ∀ q, q ≠ x → h1 q = h q := fun q hq => by rw [e1, am_u_n _ _ _ _ _ hq]
    have b2 : ∀ h2, h2 = am_u h1 m 0 0 → h2 m 2 = h m 2 := fun h2 e2 => by rw [e2, am_u_j (by omega), n1 m (by omega)]
    refine am_Met.of (by decide) rfl (Nat.le_of_ble_eq_true rfl) (ab_Md_end_0 hM fun h2 e2 => ⟨fun w => by omega, fun _ => ⟨fun _ h3 e3 => ?_, fun w => by rw [b2 h2 e2] at w; omega⟩⟩)
    rw [am_qI_s]
    have n3 : ∀ q, q ≠ m → h3 q = h1 q := fun q hq => by rw [e3, am_u_n _ _ _ _ _ hq, e2, am_u_n _ _ _ _ _ hq]
    have j3 : ∀ j, j ≠ 0 → j ≠ 2 → h3 m j = h m j := fun j a b => by rw [e3, am_u_j b, e2, am_u_j a, n1 m (by omega)]
    have hm2 : h3 m 2 = a := by rw [e3, am_u_s]
    refine ⟨rfl, c.tape (fun j hj => by rw [n3 x (by omega), e1, am_u_j (by omega)]) (fun q a b => by rw [n3 q (by omega), n1 q (by omega)]) (fun q a => by rw [n3 q (by omega), n1 q (by omega)]) j3 ⟨?_, by omega, ?_, ?_⟩⟩
    · rw [hm2, n3 x (by omega), e1, am_u_s]
    · rw [hm2, n3 (x + 1) (by omega), n3 (m + 1) (by omega), n1 (x + 1) (by omega), n1 (m + 1) (by omega)]
      exact fun i hi => t3 i (by omega)
    · rw [j3 10 (by omega) (by omega), n3 x (by omega), e1, am_u_j (by omega)]
      exact t4
  · rw [am_qI_s]
    refine am_Met.of (by decide) rfl (Nat.le_of_ble_eq_true rfl) (ab_Md_end_0 hM fun h2 e2 => ⟨fun w => by omega, fun _ => ⟨fun w => ?_, fun _ => ?_⟩⟩)
    · rw [e2, am_u_j (by omega)] at w
      omega
    · rw [am_qI_s]
      exact ⟨rfl, nul h2 e2⟩
/-- a question that leaves the class as it is -/
theorem two_e {Mc Mm : am_M} {av : List am_V} {F : Int} (dis : x + 148 ≤ m) (c : RL h x m) (kc : am_cI Mc 60 Y (.inr (.inr x) :: av) h fun v h1 => h1 = h ∧ v = F) (km : am_cI Mm 60 Y (.inr (.inr m) :: av) h fun w h2 => w = F ∧ (∀ q, q < m → h2 q = h q) ∧ yFr h h2 m) : am_two Mc Mm Y x m av h := by
  refine am_cI.mono kc ?_
  rintro v h1 - - ⟨rfl, rfl⟩
  refine am_cI.mono km ?_
  rintro w h2 - - ⟨rfl, a, b⟩
  exact ⟨rfl, c.but (xFr.refl.two dis a) b⟩
theorem two_fault (hY : am_at Y x am_L11) (hM : am_at Y m am_L12) (dis : x + 148 ≤ m) (c : RL h x m) : am_two am_Nh_fault am_Md_fault Y x m [] h := by
  have t4 := c.1.2.2.2
  refine two_e (F := h x 2) dis c ?_ ?_
  · refine am_Met.of (by decide) rfl (Nat.le_of_ble_eq_true rfl) (ab_Nh_fault_0 hY ?_)
    rw [am_qI_s]
    exact ⟨rfl, rfl⟩
  · refine am_Met.of (by decide) rfl (Nat.le_of_ble_eq_true rfl) (ab_Md_fault_0 hM fun h1 e1 => ?_)
    rw [am_qI_s]
    exact ⟨by rw [e1, am_u_j (by omega)]; exact t4.symm, yF0 e1⟩
end
