/-! the reference: left, whole -/
def llF (g g1 : am_H) (m : Nat) : Prop := (∀ q, q ≠ m → q ≠ m + 24 → q ≠ m + 25 → q ≠ m + 26 → g1 q = g q) ∧ ∀ j, j ≠ 54 → g1 m j = g m j
/-- where left leaves the reference without a word -/
def yLf (h h1 : am_H) (m : Nat) : Prop := (∀ q, q < m → h1 q = h q) ∧ lai h1 m = lai h m ∧ (∀ q, q = m + 1 ∨ q = m + 5 ∨ q = m + 6 ∨ q = m + 8 ∨ q = m + 9 ∨ q = m + 22 ∨ q = m + 23 ∨ q = m + 29 → h1 q = h q) ∧ ∀ j, j = 2 ∨ j = 10 ∨ j = 47 ∨ j = 48 ∨ j = 58 ∨ j = 59 → h1 m j = h m j
/-- how far left has come -/
def lSt (A : Nat → Int) (mo M : Int) (F : Nat → Int) (n : Nat) : Prop := (∀ i, i < n → lLx A mo M F i) ∧ (∀ i : Nat, n ≤ i → (i : Int) < A 2 → F i = -2) ∧ (∀ i : Nat, i < n → (i : Int) < A 2 → F i = -1 ∨ asked A (F i) (i : Int)) ∧ ∃ G, lVal A mo G ∧ (∀ i, i < n → G i = F i) ∧ lMet G (A 2).toNat = M
section
variable {A F F' : Nat → Int} {mo M v : Int} {n : Nat}
theorem lVal.none (hmo : 0 ≤ mo) : lVal A mo (fun _ => -1) :=
  ⟨fun _ _ => Or.inl rfl, fun p _ => by
    have : lCnt (fun _ => -1) (p : Int) (A 2).toNat = 0 := sm_zero _ fun i _ => if_neg (by show ¬ (-1 : Int) = (p : Int); omega)
    omega⟩
theorem lTel.first (hmo : 0 ≤ mo) (hF : ∀ i : Nat, (i : Int) < A 2 → F i = -2) (t : lTel A F mo v) : lMax A mo v := by
  have con : ∀ G, lCon A F G := fun G i hi nf => absurd (hF i hi) nf
  rcases t with ⟨-, no⟩ | ⟨-, ⟨G, g1, -, g3⟩, mx⟩
  · exact (no _ (lVal.none hmo) (con _)).elim
  · exact ⟨⟨G, g1, g3⟩, fun G hG => mx G hG (con G)⟩
/-- n can't be met by whom it can't be asked of -/
theorem lFeas.asked {q : Int} (hn : (n : Int) < A 2) (hq : ¬ q = -1) (c : lFeas A mo M F n q) : asked A q (n : Int) := by
  obtain ⟨G, c1, c2, c3, c4⟩ := c
  rcases c1.1 n hn with e | e
  · rw [c3] at e
    exact absurd e hq
  · rw [c3] at e
    exact e
theorem lTel.is (mx : lMax A mo M) (st : lSt A mo M F n) (hn : (n : Int) < A 2) {p : Int} (hp : asked A p (n : Int)) (e : ∀ i, i ≠ n → F' i = F i) (en : F' n = p) (t : lTel A F' mo v) : v = M ↔ lFeas A mo M F n p := by
  obtain ⟨-, s2, s3, -⟩ := st
  have p0 := hp.1.1
  constructor
  · intro ev
    rcases t with ⟨z, -⟩ | ⟨v0, ⟨G, g1, g2, g3⟩, -⟩
    · obtain ⟨⟨G, -, g2⟩, -⟩ := mx
      have := (lMet_rg G (A 2).toNat).1
      omega
    · refine ⟨G, g1, fun i hi => ?_, ?_, by rw [g3, ev]⟩
      · have ne : i ≠ n := by omega
        rw [← e i ne]
        refine g2 i (by omega) ?_
        rw [e i ne]
        rcases s3 i hi (by omega) with q | q
        · omega
        · have := q.1
          omega
      · rw [← en]
        exact g2 n hn (by omega)
  · rintro ⟨G, g1, g2, g3, g4⟩
    have con : lCon A F' G := by
      intro i hi nf
      by_cases z : i = n
      · rw [z, en, g3]
      · rw [e i z] at nf ⊢
        by_cases lt : i < n
        · exact g2 i lt
        · exact absurd (s2 i (by omega) hi) nf
    rcases t with ⟨-, no⟩ | ⟨v0, ⟨G', h1, -, h3⟩, up⟩
    · exact (no G g1 con).elim
    · have a := up G g1 con
      have b := mx.2 G' h1
      omega
theorem lSt.take (st : lSt A mo M F n) (hn : (n : Int) < A 2) (h8 : A 1 ≤ 8) {p : Nat} (fe : lFeas A mo M F n (p : Int)) (no : ∀ q : Nat, q < p → ¬ lFeas A mo M F n (q : Int)) (e : ∀ i, i ≠ n → F' i = F i) (en : F' n = (p : Int)) : lSt A mo M F' (n + 1) := by
  obtain ⟨s1, s2, s3, -⟩ := st
  have lt : ∀ i, i < n → F i = F' i := fun i hi => (e i (by omega)).symm
  have ask := fe.asked hn (by omega)
  refine ⟨fun i hi => ?_, fun i hi hi2 => by rw [e i (by omega)]; exact s2 i (by omega) hi2, fun i hi hi2 => ?_, ?_⟩
  · by_cases z : i = n
    · rw [z]
      refine Or.inr ⟨by omega, by have := ask.1; omega, by rw [en]; exact lFeas_c lt fe, fun q hq f => no q (by omega) (lFeas_c (fun i hi => (lt i hi).symm) f)⟩
    · exact lLx_c (fun j hj => (e j (by omega)).symm) (s1 i (by omega))
  · by_cases z : i = n
    · rw [z, en]
      exact Or.inr ask
    · rw [e i z]
      exact s3 i (by omega) hi2
  · obtain ⟨G, g1, g2, g3, g4⟩ := fe
    refine ⟨G, g1, fun i hi => ?_, g4⟩
    by_cases z : i = n
    · rw [z, g3, en]
    · rw [e i z]
      exact g2 i (by omega)
theorem lSt.skip (st : lSt A mo M F n) (w : wV A) (hn : (n : Int) < A 2) (no : ∀ q : Nat, (q : Int) < A 1 → ¬ lFeas A mo M F n (q : Int)) (e : ∀ i, i ≠ n → F' i = F i) (en : F' n = -1) : lSt A mo M F' (n + 1) := by
  obtain ⟨s1, s2, s3, ⟨G, g1, g2, g3⟩⟩ := st
  have lt : ∀ i, i < n → F i = F' i := fun i hi => (e i (by omega)).symm
  have Gn : G n = -1 := by
    rcases g1.rg w (i := n) (by omega) with q | q
    · exact q
    · refine absurd ⟨G, g1, g2, ?_, g3⟩ (no (G n).toNat (by omega))
      omega
  refine ⟨fun i hi => ?_, fun i hi hi2 => by rw [e i (by omega)]; exact s2 i (by omega) hi2, fun i hi hi2 => ?_, G, g1, fun i hi => ?_, g3⟩
  · by_cases z : i = n
    · rw [z]
      refine Or.inl ⟨en, fun q hq f => ?_⟩
      have f' := lFeas_c (fun i hi => (lt i hi).symm) f
      have ask := f'.asked hn (by omega)
      exact no q ask.1.2 f'
    · exact lLx_c (fun j hj => (e j (by omega)).symm) (s1 i (by omega))
  · by_cases z : i = n
    · rw [z]
      exact Or.inl en
    · rw [e i z]
      exact s3 i (by omega) hi2
  · by_cases z : i = n
    · rw [z, Gn, en]
    · rw [e i z]
      exact g2 i (by omega)
end
section
variable {Y : am_Y} {g g1 g2 h : am_H} {m d : Nat} {A F : Nat → Int} {mo M : Int}
theorem llF.refl : llF g g m := ⟨fun _ _ _ _ _ => rfl, fun _ _ => rfl⟩
theorem llF.trans (a : llF g g1 m) (b : llF g1 g2 m) : llF g g2 m := ⟨fun q p1 p2 p3 p4 => (b.1 q p1 p2 p3 p4).trans (a.1 q p1 p2 p3 p4), fun j p => (b.2 j p).trans (a.2 j p)⟩
theorem llF.of (a : lmF g g1 m) : llF g g1 m := ⟨fun q p1 p2 p3 _ => a.1 q p1 p2 p3, a.2⟩
theorem llF.u {j : Nat} {v : Int} (e : g1 = am_u g (m + 26) j v) : llF g g1 m := ⟨fun q _ _ _ p => by rw [e, am_u_n _ _ _ _ _ p], fun j _ => by rw [e, am_u_n _ _ _ _ _ (by omega)]⟩
theorem lef_159 {Q : Option am_V → am_H → Prop} {N : Int} (hM : am_at Y m am_L12) (h55 : g m 55 = N) (hN : 0 ≤ N ∧ N ≤ 48) (k : ∀ g1, (∀ q, q ≠ m + 27 → g1 q = g q) → (∀ i : Nat, (i : Int) < N → g1 (m + 27) i = g (m + 26) i) → Q (some (.inl M)) g1) : am_wp am_Md_left d Y 159 [some (.inr (.inr m)), none, some (.inl M), some (.inl 0), none, none] [] g Q := by
  have lp : ∀ i : Int, ∀ g1 : am_H, 0 ≤ i → i ≤ N → (∀ q, q ≠ m + 27 → g1 q = g q) → (∀ j : Nat, (j : Int) < i → g1 (m + 27) j = g (m + 26) j) → aw_Md_left_159 d Y m M i g1 Q := by
    refine am_up (fun i => ∀ g1 : am_H, 0 ≤ i → i ≤ N → (∀ q, q ≠ m + 27 → g1 q = g q) → (∀ j : Nat, (j : Int) < i → g1 (m + 27) j = g (m + 26) j) → aw_Md_left_159 d Y m M i g1 Q) N ?_ ?_
    · intro i hi g1 h0 h8 e1 e2
      refine ab_Md_left_159 hM ?_
      rw [e1 m (by omega), h55]
      exact ⟨fun _ => k g1 e1 fun j hj => e2 j (by omega), fun z => by omega⟩
    · intro i hi ih g1 h0 h8 e1 e2
      refine ab_Md_left_159 hM ?_
      rw [e1 m (by omega), h55]
      refine ⟨fun z => by omega, fun _ => ⟨by omega, by omega, fun g2 eg => ⟨by unfold am_ri; omega, ih g2 (by omega) (by omega) (fun q hq => by rw [eg, am_u_n _ _ _ _ _ hq, e1 q hq]) fun j hj => ?_⟩⟩⟩
      by_cases ji : j = i.toNat
      · rw [ji, eg, am_u_s, e1 (m + 26) (by omega)]
      · rw [eg, am_u_j ji, e2 j (by omega)]
  exact lp 0 g (by omega) (by omega) (fun _ _ => rfl) fun j hj => by omega
theorem lef_55 {Q : Option am_V → am_H → Prop} (hM : am_at Y m am_L12) (w : wV A) (hmo : 0 ≤ mo ∧ mo ≤ 9) (mx : lMax A mo M) (gA : g (m + 2) = A) (g53 : g m 53 = mo) (st : lSt A mo M (g (m + 26)) 0) (k : ∀ g1, llF g g1 m → lSt A mo M (g1 (m + 26)) (A 2).toNat → aw_Md_left_55 (d + 12) Y m M (A 2) g1 Q) : aw_Md_left_55 (d + 12) Y m M 0 g Q := by
  have hz := w.1.z
  unfold rz at hz
  have w2 := wr_2 w.1
  have lp : ∀ n : Int, ∀ g1 : am_H, 0 ≤ n → n ≤ A 2 → llF g g1 m → lSt A mo M (g1 (m + 26)) n.toNat → aw_Md_left_55 (d + 12) Y m M n g1 Q := by
    refine am_up (fun n => ∀ g1 : am_H, 0 ≤ n → n ≤ A 2 → llF g g1 m → lSt A mo M (g1 (m + 26)) n.toNat → aw_Md_left_55 (d + 12) Y m M n g1 Q) (A 2) ?_ ?_
    · intro n hn g1 n0 n8 f1 s1
      have e : n = A 2 := by omega
      subst e
      exact k g1 f1 s1
    · intro n hn nh g1 n0 n8 f1 s1
      have nn : ((n.toNat : Nat) : Int) = n := by omega
      have n1 : (n + 1).toNat = n.toNat + 1 := by omega
      have gA1 : g1 (m + 2) = A := by rw [f1.1 _ (by omega) (by omega) (by omega) (by omega), gA]
      refine ab_Md_left_55 hM ?_
      rw [gA1]
      refine ⟨fun z => by omega, fun _ => ?_⟩
      have lq : ∀ p : Int, ∀ g3 : am_H, 0 ≤ p → p ≤ A 1 → llF g g3 m → (∀ i, i ≠ n.toNat → g3 (m + 26) i = g1 (m + 26) i) → (∀ q : Nat, (q : Int) < p → ¬ lFeas A mo M (g1 (m + 26)) n.toNat (q : Int)) → aw_Md_left_71 (d + 12) Y m M n p 0 g3 Q := by
        refine am_up (fun p => ∀ g3 : am_H, 0 ≤ p → p ≤ A 1 → llF g g3 m → (∀ i, i ≠ n.toNat → g3 (m + 26) i = g1 (m + 26) i) → (∀ q : Nat, (q : Int) < p → ¬ lFeas A mo M (g1 (m + 26)) n.toNat (q : Int)) → aw_Md_left_71 (d + 12) Y m M n p 0 g3 Q) (A 1) ?_ ?_
        · intro p hp g3 p0 p8 f3 e3 no
          have gA3 : g3 (m + 2) = A := by rw [f3.1 _ (by omega) (by omega) (by omega) (by omega), gA]
          refine ab_Md_left_71 hM (eK (ac_m_persons (d := 0) hM) (by omega) ?_)
          rw [gA3]
          refine ⟨fun _ => ⟨fun z => absurd rfl z, fun _ => ⟨by omega, fun h3 eh => ⟨by unfold am_ri; omega, nh h3 (by omega) (by omega) (f3.trans (llF.u eh)) ?_⟩⟩⟩, fun z => by omega⟩
          rw [n1]
          exact s1.skip w (by omega) (fun q hq => no q (by omega)) (fun i hi => by rw [eh, am_u_j hi, e3 i hi]) (by rw [eh, am_u_s])
        · intro p hp ph g3 p0 p8 f3 e3 no
          have pp : ((p.toNat : Nat) : Int) = p := by omega
          have gA3 : g3 (m + 2) = A := by rw [f3.1 _ (by omega) (by omega) (by omega) (by omega), gA]
          refine ab_Md_left_71 hM (eK (ac_m_persons (d := 0) hM) (by omega) ?_)
          rw [gA3]
          refine ⟨fun z => by omega, fun _ => ⟨fun z => absurd rfl z, fun _ => ⟨by omega, fun h7 e7 => ?_⟩⟩⟩
          have f7 : llF g h7 m := f3.trans (llF.u e7)
          have gA7 : h7 (m + 2) = A := by rw [f7.1 _ (by omega) (by omega) (by omega) (by omega), gA]
          have F7 : ∀ i, i ≠ n.toNat → h7 (m + 26) i = g1 (m + 26) i := fun i hi => by rw [e7, am_u_j hi, e3 i hi]
          have F7n : h7 (m + 26) n.toNat = p := by rw [e7, am_u_s]
          have on : ∀ g4 : am_H, llF g g4 m → g4 (m + 26) = h7 (m + 26) → ¬ lFeas A mo M (g1 (m + 26)) n.toNat p → (am_ri (p + 1)) ∧ aw_Md_left_71 (d + 12) Y m M n (p + 1) 0 g4 Q := by
            intro g4 f4 e4 nf
            refine ⟨by unfold am_ri; omega, ph g4 (by omega) (by omega) f4 (fun i hi => by rw [e4, F7 i hi]) fun q hq => ?_⟩
            by_cases qp : (q : Int) = p
            · rw [qp]
              exact nf
            · exact no q (by omega)
          refine eK (ac_m_canHelp (d := 0) hM gA7 w ⟨p0, hp⟩ ⟨n0, hn⟩) (by omega) ?_
          by_cases q : asked A p n
          · rw [if_pos q]
            refine ⟨fun z => absurd z (by decide), fun _ => ?_⟩
            have hF : ∀ i : Nat, (i : Int) < A 2 → h7 (m + 26) i = -2 ∨ h7 (m + 26) i = -1 ∨ asked A (h7 (m + 26) i) (i : Int) := by
              intro i hi
              by_cases z : i = n.toNat
              · rw [z, F7n, nn]
                exact Or.inr (Or.inr q)
              · rw [F7 i z]
                by_cases lt : i < n.toNat
                · exact Or.inr (s1.2.2.1 i lt hi)
                · exact Or.inl (s1.2.1 i (by omega) hi)
            refine am_kI.of (ac_m_matched (d := d) hM w hmo gA7 (by rw [f7.2 53 (by omega)]; exact g53) hF) (by omega) ?_
            rintro v g5 - - ⟨f5, t5⟩
            have f5' := f7.trans (llF.of f5)
            have e5 : g5 (m + 26) = h7 (m + 26) := f5.1 _ (by omega) (by omega) (by omega)
            have q' : asked A p ((n.toNat : Nat) : Int) := by rw [nn]; exact q
            have is := t5.is mx s1 (by omega) q' F7 F7n
            refine ⟨fun z => on g5 f5' e5 fun fe => z (is.mpr fe), fun z => ?_⟩
            have gA5 : g5 (m + 2) = A := by rw [f5'.1 _ (by omega) (by omega) (by omega) (by omega), gA]
            have go : (am_ri (n + 1)) ∧ aw_Md_left_55 (d + 12) Y m M (n + 1) g5 Q := by
              refine ⟨by unfold am_ri; omega, nh g5 (by omega) (by omega) f5' ?_⟩
              rw [n1]
              exact s1.take (p := p.toNat) (by omega) (by omega) (by rw [pp]; exact is.mp z) (fun q hq => no q (by omega)) (fun i hi => by rw [e5, F7 i hi]) (by rw [e5, F7n, pp])
            refine ab_Md_left_71 hM (eK (ac_m_persons (d := 0) hM) (by omega) ?_)
            exact ⟨fun _ => ⟨fun _ => go, fun z => absurd z (by decide)⟩, fun _ => ⟨fun _ => ⟨fun _ => go, fun z => absurd z (by decide)⟩, fun z => absurd z (by decide)⟩⟩
          · rw [if_neg q]
            refine ⟨fun _ => on h7 f7 rfl fun fe => q ?_, fun z => absurd rfl z⟩
            have := fe.asked (by omega) (by omega)
            rw [nn] at this
            exact this
      exact lq 0 g1 (by omega) (by omega) f1 (fun _ _ => rfl) fun q hq => by omega
  exact lp 0 g (by omega) (by omega) llF.refl st
theorem ac_m_left (hM : am_at Y m am_L12) (hb : h m 22 = 0 ∨ h m 22 = 1) (w : wV (lai h m)) (hmo : 0 ≤ mo ∧ mo ≤ 9) : am_cI am_Md_left (d + 12) Y [.inr (.inr m), .inl mo] h (fun v h1 => lMax (lai h m) mo v ∧ yLf h h1 m ∧ h1 m 55 = lai h m 2 ∧ ∃ F, (∀ n : Nat, (n : Int) < lai h m 2 → h1 (m + 27) n = F n) ∧ ∀ n : Nat, (n : Int) < lai h m 2 → lLx (lai h m) mo v F n) := by
  have hz := w.1.z
  unfold rz at hz
  have w2 := wr_2 w.1
  refine am_Met.of (by decide) rfl (Nat.le_of_ble_eq_true rfl) (ab_Md_left_0 hM (mL.lay hM hb (by omega) fun h2 _ l => eK (ac_m_isIn (d := 0)) (by omega) ?_))
  obtain ⟨l0, l2, l22, lq, lj⟩ := l
  rw [if_pos hmo]
  refine ⟨fun _ h5 e5 => ?_, fun z => absurd z (by decide)⟩
  have n5 : ∀ q, q ≠ m → h5 q = h2 q := fun q hq => by rw [e5, am_u_n _ _ _ _ _ hq]
  have lp : ∀ i : Int, ∀ g1 : am_H, 0 ≤ i → i ≤ 48 → (∀ q, q ≠ m + 26 → g1 q = h5 q) → (∀ j : Nat, (j : Int) < i → g1 (m + 26) j = -2) → aw_Md_left_28 (d + 12) Y m i g1 (am_qI fun v h1 => lMax (lai h m) mo v ∧ yLf h h1 m ∧ h1 m 55 = lai h m 2 ∧ ∃ F, (∀ n : Nat, (n : Int) < lai h m 2 → h1 (m + 27) n = F n) ∧ ∀ n : Nat, (n : Int) < lai h m 2 → lLx (lai h m) mo v F n) := by
    refine am_up (fun i => ∀ g1 : am_H, 0 ≤ i → i ≤ 48 → (∀ q, q ≠ m + 26 → g1 q = h5 q) → (∀ j : Nat, (j : Int) < i → g1 (m + 26) j = -2) → aw_Md_left_28 (d + 12) Y m i g1 (am_qI fun v h1 => lMax (lai h m) mo v ∧ yLf h h1 m ∧ h1 m 55 = lai h m 2 ∧ ∃ F, (∀ n : Nat, (n : Int) < lai h m 2 → h1 (m + 27) n = F n) ∧ ∀ n : Nat, (n : Int) < lai h m 2 → lLx (lai h m) mo v F n)) 48 ?_ ?_
    · intro i hi g1 i0 i8 e1 e2
      have gA : g1 (m + 2) = lai h m := by rw [e1 _ (by omega), n5 _ (by omega), l2]
      have g53 : g1 m 53 = mo := by rw [e1 m (by omega), e5, am_u_s]
      have F2 : ∀ j : Nat, (j : Int) < lai h m 2 → g1 (m + 26) j = -2 := fun j hj => e2 j (by omega)
      refine ab_Md_left_28 hM ⟨fun _ => am_kI.of (ac_m_matched (d := d) hM w hmo gA g53 fun j hj => Or.inl (F2 j hj)) (by omega) ?_, fun z => by omega⟩
      rintro v g3 - - ⟨f3, t3⟩
      have mx := t3.first hmo.1 F2
      have e26 : g3 (m + 26) = g1 (m + 26) := f3.1 _ (by omega) (by omega) (by omega)
      have gA3 : g3 (m + 2) = lai h m := by rw [f3.1 _ (by omega) (by omega) (by omega), gA]
      have st0 : lSt (lai h m) mo v (g3 (m + 26)) 0 := by
        refine ⟨fun i hi => absurd hi (Nat.not_lt_zero i), fun j _ hj => by rw [e26]; exact F2 j hj, fun i hi => absurd hi (Nat.not_lt_zero i), ?_⟩
        obtain ⟨⟨G, g1', g2'⟩, -⟩ := mx
        exact ⟨G, g1', fun i hi => absurd hi (Nat.not_lt_zero i), g2'⟩
      refine lef_55 (d := d) hM w hmo mx gA3 (by rw [f3.2 53 (by omega)]; exact g53) st0 fun g4 f4 st4 => ?_
      have gA4 : g4 (m + 2) = lai h m := by rw [f4.1 _ (by omega) (by omega) (by omega) (by omega), gA3]
      refine ab_Md_left_55 hM ?_
      rw [gA4]
      refine ⟨fun _ h6 e6 => ?_, fun z => by omega⟩
      refine lef_159 hM (N := lai h m 2) (by rw [e6, am_u_s]) (by omega) fun h7 a1 a2 => ?_
      rw [am_qI_s]
      have n6 : ∀ q, q ≠ m → h6 q = g4 q := fun q hq => by rw [e6, am_u_n _ _ _ _ _ hq]
      have qs : ∀ q, q ≠ m → q ≠ m + 2 → q ≠ m + 24 → q ≠ m + 25 → q ≠ m + 26 → q ≠ m + 27 → h7 q = h q := fun q p1 p2 p3 p4 p5 p6 => by rw [a1 q p6, n6 q p1, f4.1 q p1 p3 p4 p5, f3.1 q p1 p3 p4, e1 q p5, n5 q p1, lq q p1 p2]
      have js : ∀ j, j ≠ 0 → j ≠ 22 → j ≠ 53 → j ≠ 54 → j ≠ 55 → h7 m j = h m j := fun j p1 p2 p3 p4 p5 => by rw [a1 m (by omega), e6, am_u_j p5, f4.2 j p4, f3.2 j p4, e1 m (by omega), e5, am_u_j p3, lj j p1 p2]
      have j22 : h7 m 22 = 1 := by rw [a1 m (by omega), e6, am_u_j (by omega), f4.2 22 (by omega), f3.2 22 (by omega), e1 m (by omega), e5, am_u_j (by omega), l22]
      refine ⟨mx, ⟨fun q hq => qs q (by omega) (by omega) (by omega) (by omega) (by omega) (by omega), ?_, fun q hq => qs q (by omega) (by omega) (by omega) (by omega) (by omega) (by omega), fun j hj => js j (by omega) (by omega) (by omega) (by omega) (by omega)⟩, ?_, g4 (m + 26), fun n hn => ?_, fun n hn => st4.1 n (by omega)⟩
      · rw [lai_1 j22, a1 _ (by omega), n6 _ (by omega), gA4]
      · rw [a1 m (by omega), e6, am_u_s]
      · rw [a2 n hn, n6 _ (by omega)]
    · intro i hi ih g1 i0 i8 e1 e2
      refine ab_Md_left_28 hM ⟨fun z => by omega, fun _ => ⟨by omega, fun g2 eg => ⟨by unfold am_ri; omega, ih g2 (by omega) (by omega) (fun q hq => by rw [eg, am_u_n _ _ _ _ _ hq, e1 q hq]) fun j hj => ?_⟩⟩⟩
      by_cases ji : j = i.toNat
      · rw [ji, eg, am_u_s]
      · rw [eg, am_u_j ji, e2 j (by omega)]
  exact lp 0 h5 (by omega) (by omega) (fun _ _ => rfl) fun j hj => by omega
end
