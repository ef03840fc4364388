/-! who is left: assignments of needs to persons, pure -/
noncomputable def ind (P : Prop) : Int := @ite Int P (Classical.propDecidable P) 1 0
theorem ind_t {P : Prop} (h : P) : ind P = 1 := by
  unfold ind
  rw [if_pos h]
theorem ind_f {P : Prop} (h : ¬ P) : ind P = 0 := by
  unfold ind
  rw [if_neg h]
theorem ind_01 (P : Prop) : ind P = 0 ∨ ind P = 1 := by
  by_cases h : P
  · exact Or.inr (ind_t h)
  · exact Or.inl (ind_f h)
theorem sm_mono {f g : Nat → Int} : ∀ n, (∀ q, q < n → f q ≤ g q) → sm f n ≤ sm g n
  | 0, _ => Int.le_refl _
  | n + 1, h => by
    have := sm_mono (f := f) (g := g) n fun q hq => h q (by omega)
    have := h n (by omega)
    unfold sm
    omega
theorem sm_tight {f g : Nat → Int} : ∀ n, (∀ q, q < n → f q ≤ g q) → sm g n ≤ sm f n → ∀ q, q < n → f q = g q
  | 0, _, _ => fun q hq => by omega
  | n + 1, h, e => by
    have a := sm_mono (f := f) (g := g) n fun q hq => h q (by omega)
    have b := h n (by omega)
    unfold sm at e
    have ih := sm_tight (f := f) (g := g) n (fun q hq => h q (by omega)) (by omega)
    intro q hq
    by_cases z : q = n
    · rw [z]; omega
    · exact ih q (by omega)
def lCnt (f : Nat → Int) (p : Int) (k : Nat) : Int := sm (fun i => if f i = p then 1 else 0) k
def lMet (f : Nat → Int) (k : Nat) : Int := sm (fun i => if 0 ≤ f i then 1 else 0) k
section
variable {f g : Nat → Int} {p v : Int} {n N : Nat} {U : Nat → Prop}
theorem lCnt_rg (f : Nat → Int) (p : Int) (k : Nat) : 0 ≤ lCnt f p k ∧ lCnt f p k ≤ k := by
  have := sm_le (f := fun i => if f i = p then (1 : Int) else 0) (c := 1) k fun q _ => by split <;> omega
  unfold lCnt
  omega
theorem lMet_rg (f : Nat → Int) (k : Nat) : 0 ≤ lMet f k ∧ lMet f k ≤ k := by
  have := sm_le (f := fun i => if 0 ≤ f i then (1 : Int) else 0) (c := 1) k fun q _ => by split <;> omega
  unfold lMet
  omega
theorem lCnt_c (e : ∀ i, i < N → f i = g i) : lCnt f p N = lCnt g p N := sm_congr N fun q hq => by rw [e q hq]
theorem lMet_c (e : ∀ i, i < N → f i = g i) : lMet f N = lMet g N := sm_congr N fun q hq => by rw [e q hq]
theorem upl_s : up f n v n = v := if_pos rfl
theorem upl_n {i : Nat} (h : i ≠ n) : up f n v i = f i := if_neg h
theorem lCnt_up (hn : n < N) : lCnt (up f n v) p N = lCnt f p N - (if f n = p then 1 else 0) + (if v = p then 1 else 0) := by
  have := sm_set (f := fun i => if f i = p then (1 : Int) else 0) (g := fun i => if up f n v i = p then (1 : Int) else 0) (p := n) (y := (if v = p then 1 else 0) - (if f n = p then 1 else 0)) (by rw [upl_s]; omega) (fun q hq => by rw [upl_n hq]) N
  rw [if_pos hn] at this
  unfold lCnt
  rw [this]
  omega
theorem lMet_up (hn : n < N) : lMet (up f n v) N = lMet f N - (if 0 ≤ f n then 1 else 0) + (if 0 ≤ v then 1 else 0) := by
  have := sm_set (f := fun i => if 0 ≤ f i then (1 : Int) else 0) (g := fun i => if 0 ≤ up f n v i then (1 : Int) else 0) (p := n) (y := (if 0 ≤ v then 1 else 0) - (if 0 ≤ f n then 1 else 0)) (by rw [upl_s]; omega) (fun q hq => by rw [upl_n hq]) N
  rw [if_pos hn] at this
  unfold lMet
  rw [this]
  omega
/-- one of them is met by p -/
theorem lCnt_pos {i : Nat} (hi : i < N) (e : f i = p) : 1 ≤ lCnt f p N := by
  have a := lCnt_up (f := f) (p := p) (v := p + 1) hi
  have b := (lCnt_rg (up f i (p + 1)) p N).1
  rw [if_pos e, if_neg (by omega)] at a
  omega
theorem ind_pick (v : Int) : ∀ k : Nat, sm (fun p => ind (U p) * (if v = (p : Int) then 1 else 0)) k = if 0 ≤ v ∧ v < k then ind (U v.toNat) else 0
  | 0 => by
    rw [if_neg (by omega)]
    rfl
  | k + 1 => by
    have ih := ind_pick v k
    unfold sm
    rw [ih]
    by_cases z : v = (k : Int)
    · rw [if_neg (by omega), if_pos z, if_pos (by omega), z, Int.toNat_natCast]
      omega
    · rw [if_neg z]
      by_cases z2 : 0 ≤ v ∧ v < k
      · rw [if_pos z2, if_pos (by omega)]
        omega
      · rw [if_neg z2, if_neg (by omega)]
        omega
theorem ind_dbl : ∀ N : Nat, (∀ i, i < N → f i < 8) → sm (fun i => ind (0 ≤ f i ∧ U (f i).toNat)) N = sm (fun p => ind (U p) * lCnt f (p : Int) N) 8
  | 0, _ => by
    symm
    exact sm_zero 8 fun q _ => by
      show ind (U q) * 0 = 0
      omega
  | N + 1, h => by
    have ih := ind_dbl N fun i hi => h i (by omega)
    have hN := h N (by omega)
    have pick := ind_pick (U := U) (f N) 8
    have e : sm (fun p => ind (U p) * lCnt f (p : Int) (N + 1)) 8 = sm (fun p => ind (U p) * lCnt f (p : Int) N + ind (U p) * (if f N = (p : Int) then 1 else 0)) 8 := by
      refine sm_congr 8 fun q _ => ?_
      show ind (U q) * (lCnt f (q : Int) N + (if f N = (q : Int) then 1 else 0)) = _
      rw [Int.mul_add]
    rw [e, sm_add, ← ih, pick]
    show sm (fun i => ind (0 ≤ f i ∧ U (f i).toNat)) N + ind (0 ≤ f N ∧ U (f N).toNat) = _
    congr 1
    by_cases z : 0 ≤ f N
    · rw [if_pos ⟨z, hN⟩]
      by_cases u : U (f N).toNat
      · rw [ind_t u, ind_t ⟨z, u⟩]
      · rw [ind_f u, ind_f fun q => u q.2]
    · rw [if_neg fun q => z q.1, ind_f fun q => z q.1]
theorem met_split : lMet f N = sm (fun i => ind (0 ≤ f i ∧ U (f i).toNat)) N + sm (fun i => ind (0 ≤ f i ∧ ¬ U (f i).toNat)) N := by
  rw [← sm_add]
  refine sm_congr N fun i _ => ?_
  by_cases z : 0 ≤ f i
  · rw [if_pos z]
    by_cases u : U (f i).toNat
    · rw [ind_t ⟨z, u⟩, ind_f fun q => q.2 u]
      omega
    · rw [ind_f fun q => u q.2, ind_t ⟨z, u⟩]
      omega
  · rw [if_neg z, ind_f fun q => z q.1, ind_f fun q => z q.1]
    omega
end
/-- each need by nobody, or by one who can; nobody too often -/
def lVal (A : Nat → Int) (mo : Int) (f : Nat → Int) : Prop := (∀ i : Nat, (i : Int) < A 2 → f i = -1 ∨ asked A (f i) (i : Int)) ∧ ∀ p : Nat, p < 8 → lCnt f (p : Int) (A 2).toNat ≤ mo
/-- why no more can be met: these persons are full, and what they do can't be done by others -/
def lCert (A : Nat → Int) (mo : Int) (fr dn : Nat → Prop) (f : Nat → Int) (U : Nat → Prop) : Prop :=
  (∀ p : Nat, U p → p < 8 ∧ lCnt f (p : Int) (A 2).toNat = mo) ∧
  (∀ i : Nat, (i : Int) < A 2 → fr i → 0 ≤ f i → U (f i).toNat → ∀ q : Nat, asked A (q : Int) (i : Int) → U q) ∧
  ∀ i : Nat, (i : Int) < A 2 → fr i → dn i → f i = -1 → ∀ q : Nat, asked A (q : Int) (i : Int) → U q
section
variable {A f g G : Nat → Int} {mo M : Int} {fr dn dn' U T : Nat → Prop} {n : Nat}
theorem lVal.rg (w : wV A) (c : lVal A mo f) {i : Nat} (hi : i < (A 2).toNat) : f i = -1 ∨ 0 ≤ f i ∧ f i < A 1 ∧ f i < 8 ∧ asked A (f i) (i : Int) := by
  have hz := w.1.z
  unfold rz at hz
  rcases c.1 i (by omega) with e | e
  · exact Or.inl e
  · have := e.1
    exact Or.inr ⟨by omega, by omega, by omega, e⟩
theorem cert_max (w : wV A) (c : lVal A mo f) (k : lCert A mo fr dn f U) (hd : ∀ i : Nat, (i : Int) < A 2 → fr i → dn i) (cG : lVal A mo G) (e : ∀ i : Nat, (i : Int) < A 2 → ¬ fr i → G i = f i) : lMet G (A 2).toNat ≤ lMet f (A 2).toNat := by
  obtain ⟨k1, k2, k3⟩ := k
  have rf := fun i (hi : i < (A 2).toNat) => c.rg w hi
  have rG := fun i (hi : i < (A 2).toNat) => cG.rg w hi
  rw [met_split (f := G) (U := U), met_split (f := f) (U := U), ind_dbl (f := G) _ fun i hi => by have := rG i hi; omega, ind_dbl (f := f) _ fun i hi => by have := rf i hi; omega]
  have a : sm (fun p => ind (U p) * lCnt G (p : Int) (A 2).toNat) 8 ≤ sm (fun p => ind (U p) * lCnt f (p : Int) (A 2).toNat) 8 := by
    refine sm_mono 8 fun q hq => ?_
    by_cases u : U q
    · rw [ind_t u, (k1 q u).2]
      have := cG.2 q hq
      omega
    · rw [ind_f u]
      omega
  have b : sm (fun i => ind (0 ≤ G i ∧ ¬ U (G i).toNat)) (A 2).toNat ≤ sm (fun i => ind (0 ≤ f i ∧ ¬ U (f i).toNat)) (A 2).toNat := by
    refine sm_mono _ fun i hi => ?_
    by_cases z : 0 ≤ G i ∧ ¬ U (G i).toNat
    · have hG := rG i hi
      have ask : asked A (((G i).toNat : Nat) : Int) (i : Int) := by
        rw [show (((G i).toNat : Nat) : Int) = G i from by omega]
        rcases hG with q | q
        · omega
        · exact q.2.2.2
      have z2 : 0 ≤ f i ∧ ¬ U (f i).toNat := by
        by_cases fi : fr i
        · have hf : 0 ≤ f i := by
            rcases rf i hi with q | q
            · exact absurd (k3 i (by omega) fi (hd i (by omega) fi) q _ ask) z.2
            · exact q.1
          exact ⟨hf, fun u => z.2 (k2 i (by omega) fi hf u _ ask)⟩
        · rw [← e i (by omega) fi]
          exact z
      rw [ind_t z, ind_t z2]
      omega
    · rw [ind_f z]
      have := ind_01 (0 ≤ f i ∧ ¬ U (f i).toNat)
      omega
  omega
theorem cert_keep (w : wV A) (c : lVal A mo f) (k : lCert A mo fr dn f U) (cg : lVal A mo g) (e : ∀ i : Nat, (i : Int) < A 2 → ¬ fr i → g i = f i) (m : ∀ i : Nat, (i : Int) < A 2 → 0 ≤ f i → 0 ≤ g i) : lCert A mo fr dn g U := by
  obtain ⟨k1, k2, k3⟩ := k
  have rf := fun i (hi : i < (A 2).toNat) => c.rg w hi
  have rg := fun i (hi : i < (A 2).toNat) => cg.rg w hi
  have sub : ∀ i, i < (A 2).toNat → (0 ≤ f i ∧ U (f i).toNat) → 0 ≤ g i ∧ U (g i).toNat := by
    intro i hi z
    have g0 := m i (by omega) z.1
    refine ⟨g0, ?_⟩
    by_cases fi : fr i
    · refine k2 i (by omega) fi z.1 z.2 _ ?_
      rw [show (((g i).toNat : Nat) : Int) = g i from by omega]
      rcases rg i hi with q | q
      · omega
      · exact q.2.2.2
    · rw [e i (by omega) fi]
      exact z.2
  have p1 : ∀ i, i < (A 2).toNat → ind (0 ≤ f i ∧ U (f i).toNat) ≤ ind (0 ≤ g i ∧ U (g i).toNat) := by
    intro i hi
    by_cases z : 0 ≤ f i ∧ U (f i).toNat
    · rw [ind_t z, ind_t (sub i hi z)]
      omega
    · rw [ind_f z]
      have := ind_01 (0 ≤ g i ∧ U (g i).toNat)
      omega
  have p2 : ∀ q, q < 8 → ind (U q) * lCnt g (q : Int) (A 2).toNat ≤ ind (U q) * lCnt f (q : Int) (A 2).toNat := by
    intro q hq
    by_cases u : U q
    · rw [ind_t u, (k1 q u).2]
      have := cg.2 q hq
      omega
    · rw [ind_f u]
      omega
  have s1 := sm_mono _ p1
  have s2 := sm_mono 8 p2
  have d1 := ind_dbl (f := f) (U := U) (A 2).toNat fun i hi => by have := rf i hi; omega
  have d2 := ind_dbl (f := g) (U := U) (A 2).toNat fun i hi => by have := rg i hi; omega
  have t1 := sm_tight _ p1 (by omega)
  have t2 := sm_tight 8 p2 (by omega)
  have back : ∀ i, i < (A 2).toNat → (0 ≤ g i ∧ U (g i).toNat) → 0 ≤ f i ∧ U (f i).toNat := by
    intro i hi z
    refine Classical.byContradiction fun y => ?_
    have := t1 i hi
    rw [ind_t z, ind_f y] at this
    omega
  refine ⟨fun p u => ⟨(k1 p u).1, ?_⟩, fun i hi fi g0 u => ?_, fun i hi fi di gi => ?_⟩
  · have := t2 p (k1 p u).1
    rw [ind_t u, (k1 p u).2] at this
    omega
  · have b := back i (by omega) ⟨g0, u⟩
    exact k2 i hi fi b.1 b.2
  · refine k3 i hi fi di ?_
    rcases rf i (by omega) with q | q
    · exact q
    · have := m i hi q.1
      omega
theorem cert_0 : lCert A mo fr (fun _ => False) f (fun _ => False) := ⟨fun _ u => u.elim, fun _ _ _ _ u => u.elim, fun _ _ _ u => u.elim⟩
/-- a search that failed -/
theorem cert_add (k : lCert A mo fr dn f U) (t1 : ∀ p : Nat, T p → p < 8 ∧ lCnt f (p : Int) (A 2).toNat = mo) (t2 : ∀ i : Nat, (i : Int) < A 2 → fr i → 0 ≤ f i → T (f i).toNat → ∀ q : Nat, asked A (q : Int) (i : Int) → T q) (t3 : ∀ q : Nat, asked A (q : Int) (n : Int) → T q) : lCert A mo fr (fun i => dn i ∨ i = n) f (fun p => U p ∨ T p) := by
  obtain ⟨k1, k2, k3⟩ := k
  refine ⟨fun p u => u.elim (k1 p) (t1 p), fun i hi fi f0 u q hq => u.elim (fun u => Or.inl (k2 i hi fi f0 u q hq)) (fun u => Or.inr (t2 i hi fi f0 u q hq)), fun i hi fi di e q hq => ?_⟩
  rcases di with di | di
  · exact Or.inl (k3 i hi fi di e q hq)
  · subst di
    exact Or.inr (t3 q hq)
theorem lCert.sub (k : lCert A mo fr dn f U) (h : ∀ i : Nat, (i : Int) < A 2 → fr i → f i = -1 → dn' i → dn i) : lCert A mo fr dn' f U := ⟨k.1, k.2.1, fun i hi fi di e => k.2.2 i hi fi (h i hi fi e di) e⟩
/-- the greatest number that can be met -/
def lMax (A : Nat → Int) (mo M : Int) : Prop := (∃ G, lVal A mo G ∧ lMet G (A 2).toNat = M) ∧ ∀ G, lVal A mo G → lMet G (A 2).toNat ≤ M
theorem lMax_u {M' : Int} (a : lMax A mo M) (b : lMax A mo M') : M = M' := by
  obtain ⟨⟨G, g1, g2⟩, a2⟩ := a
  obtain ⟨⟨G', h1, h2⟩, b2⟩ := b
  have := a2 G' h1
  have := b2 G g1
  omega
/-- as many can be met where n is met by q, and what is ahead of it stays -/
def lFeas (A : Nat → Int) (mo M : Int) (f : Nat → Int) (n : Nat) (q : Int) : Prop := ∃ G, lVal A mo G ∧ (∀ i, i < n → G i = f i) ∧ G n = q ∧ lMet G (A 2).toNat = M
def lLx (A : Nat → Int) (mo M : Int) (f : Nat → Int) (n : Nat) : Prop := (f n = -1 ∧ ∀ q : Nat, q < 8 → ¬ lFeas A mo M f n (q : Int)) ∨ (0 ≤ f n ∧ f n < 8 ∧ lFeas A mo M f n (f n) ∧ ∀ q : Nat, (q : Int) < f n → ¬ lFeas A mo M f n (q : Int))
theorem lFeas_c {q : Int} (e : ∀ i, i < n → f i = g i) (c : lFeas A mo M f n q) : lFeas A mo M g n q := by
  obtain ⟨G, c1, c2, c3, c4⟩ := c
  exact ⟨G, c1, fun i hi => (c2 i hi).trans (e i hi), c3, c4⟩
theorem lLx_c (e : ∀ i, i ≤ n → f i = g i) (c : lLx A mo M f n) : lLx A mo M g n := by
  have e1 := fun q => lFeas_c (A := A) (mo := mo) (M := M) (f := f) (g := g) (n := n) (q := q) fun i hi => e i (by omega)
  have e2 := fun q => lFeas_c (A := A) (mo := mo) (M := M) (f := g) (g := f) (n := n) (q := q) fun i hi => (e i (by omega)).symm
  unfold lLx
  rw [← e n (Nat.le_refl _)]
  rcases c with ⟨a, b⟩ | ⟨a, b, c, d⟩
  · exact Or.inl ⟨a, fun q hq z => b q hq (e2 _ z)⟩
  · exact Or.inr ⟨a, b, e1 _ c, fun q hq z => d q hq (e2 _ z)⟩
theorem lLx_u (a : ∀ n : Nat, (n : Int) < A 2 → lLx A mo M f n) (b : ∀ n : Nat, (n : Int) < A 2 → lLx A mo M g n) : ∀ k n : Nat, n < k → (n : Int) < A 2 → f n = g n
  | 0, n, h, _ => by omega
  | k + 1, n, h, hn => by
    have ih : ∀ i, i < n → f i = g i := fun i hi => lLx_u a b k i (by omega) (by omega)
    have e1 := fun q => lFeas_c (A := A) (mo := mo) (M := M) (f := f) (g := g) (n := n) (q := q) ih
    have e2 := fun q => lFeas_c (A := A) (mo := mo) (M := M) (f := g) (g := f) (n := n) (q := q) fun i hi => (ih i hi).symm
    rcases a n hn with ⟨a1, a2⟩ | ⟨a1, a2, a3, a4⟩
    · rcases b n hn with ⟨b1, b2⟩ | ⟨b1, b2, b3, b4⟩
      · omega
      · have z := a2 (g n).toNat (by omega)
        rw [show (((g n).toNat : Nat) : Int) = g n from by omega] at z
        exact absurd (e2 _ b3) z
    · rcases b n hn with ⟨b1, b2⟩ | ⟨b1, b2, b3, b4⟩
      · have z := b2 (f n).toNat (by omega)
        rw [show (((f n).toNat : Nat) : Int) = f n from by omega] at z
        exact absurd (e1 _ a3) z
      · by_cases lt : f n < g n
        · have z := b4 (f n).toNat (by omega)
          rw [show (((f n).toNat : Nat) : Int) = f n from by omega] at z
          exact absurd (e1 _ a3) z
        · by_cases gt : g n < f n
          · have z := a4 (g n).toNat (by omega)
            rw [show (((g n).toNat : Nat) : Int) = g n from by omega] at z
            exact absurd (e2 _ b3) z
          · omega
end
