/-! contracts: the reference's tokens: one of them; the next one -/
section
variable {d : Nat} {Y : am_Y} {h : am_H} {m : Nat}
theorem lxg_rg (c : Int) : 26 ≤ lxg c ∧ lxg c ≤ 33 ∧ lxg c ≠ 32 := by
  unfold lxg
  by_cases c1 : c = 40
  · rw [if_pos c1]; omega
  · rw [if_neg c1]
    by_cases c2 : c = 41
    · rw [if_pos c2]; omega
    · rw [if_neg c2]
      by_cases c3 : c = 59
      · rw [if_pos c3]; omega
      · rw [if_neg c3]
        by_cases c4 : c = 60
        · rw [if_pos c4]; omega
        · rw [if_neg c4]
          by_cases c5 : c = 61
          · rw [if_pos c5]; omega
          · rw [if_neg c5]
            by_cases c6 : c = 62
            · rw [if_pos c6]; omega
            · rw [if_neg c6]; omega
theorem mK_sign {hz : am_H} {c c' pl : Int} (hc : lxg c = lxg c') (h7 : hz m 7 = (if lxg c' = 33 then 1 else 4)) (h9 : hz m 9 = c') : mK hz m (lxg c, pl, 0) := by
  have r := lxg_rg c
  rw [← hc] at h7
  unfold mK
  simp only
  refine ⟨by omega, by omega, fun e => by omega, fun e => by omega, fun _ e => ⟨by rw [h7, if_neg (by omega)], by rw [h9]; exact hc.symm⟩, fun e => absurd e r.2.2, fun e => by rw [h7, if_pos e]⟩
theorem go_sign {h1 z1 z2 z3 : am_H} {s : Nat → Int} {n lim p : Nat} {kd : Int} (hb : p < min n lim) (hnb : ¬ (s p = 32 ∨ s p = 10)) (hsu : su s (h (m + 1)) n) (g1 : mgo h h1 m) (a6 : h1 m 6 = (p : Int)) (f2 : z1 = am_u h1 m 7 kd) (f3 : z2 = am_u z1 m 9 (h (m + 1) p)) (f4 : z3 = am_u z2 m 5 ((p : Int) + 1)) (cW : ¬ (97 ≤ s p ∧ s p ≤ 122 ∨ 48 ≤ s p ∧ s p ≤ 57)) (ek : kd = (if lxg (h (m + 1) p) = 33 then 1 else 4)) : goQ h m s n lim p none z3 := by
  have l5 := (su_lt hsu (show p < n by omega)).2.2.2.2
  unfold goQ
  rw [am_qV_s]
  have hN : lxN s n p = p + 1 := by unfold lxN; rw [if_neg cW]
  have hTT : lxT s n p = (lxg (s p), (p : Int), 0) := by unfold lxT; rw [if_neg cW]
  have hT := lxs_tok s n lim p hb hnb
  rw [hTT, hN] at hT
  have z7 : z3 m 7 = kd := by rw [f4, am_u_j (by omega), f3, am_u_j (by omega), f2, am_u_s]
  have z9 : z3 m 9 = h (m + 1) p := by rw [f4, am_u_j (by omega), f3, am_u_s]
  have q1 : mgo h z1 m := g1.trans (by rw [f2]; exact mgo.u (by omega))
  have q2 : mgo h z2 m := q1.trans (by rw [f3]; exact mgo.u (by omega))
  have q3 : mgo h z3 m := q2.trans (by rw [f4]; exact mgo.u (by omega))
  refine ⟨⟨_, _, hT, mK_sign l5 (z7.trans ek) z9, ?_, p + 1, ?_, by omega, ?_⟩, q3⟩
  · rw [f4, am_u_j (by omega), f3, am_u_j (by omega), f2, am_u_j (by omega)]; exact a6
  · rw [f4, am_u_s]; omega
  · rw [hT, lxs_nx]
theorem go_end {h1 h2 : am_H} {s : Nat → Int} {n lim p : Nat} {kd : Int} (hp : min n lim ≤ p) (hpn : p ≤ n) (g : mgo h h2 m) (h5 : h2 m 5 = (p : Int)) (h6 : h2 m 6 = ((min n lim : Nat) : Int)) (h7 : h2 m 7 = (if lim < n then 1 else 0)) : goQ h m s n lim p none h2 := by
  have hL := lxs_end s n lim p hp
  unfold goQ
  rw [am_qV_s]
  refine ⟨⟨_, _, hL, ?_, h6, p, h5, hpn, by rw [hL]; rfl⟩, g⟩
  unfold mK
  simp only
  by_cases c : lim < n
  · rw [if_pos c] at h7 ⊢
    exact ⟨by omega, by omega, fun e => by omega, fun e => by omega, fun e => by omega, fun e => by omega, fun _ => h7⟩
  · rw [if_neg c] at h7 ⊢
    exact ⟨by omega, by omega, fun e => by omega, fun e => by omega, fun e => by omega, fun _ => h7, fun e => by omega⟩
theorem go_96 {h1 : am_H} {s : Nat → Int} {n lim p : Nat} (hY : am_at Y m am_L12) (hn : h m 3 = (n : Int)) (hn9 : n ≤ 940) (hsu : su s (h (m + 1)) n) (hpn : p ≤ n) (hl : n ≤ lim ∨ p < lim) (hnb : p < n → ¬ (s p = 32 ∨ s p = 10)) (g1 : mgo h h1 m) (a5 : h1 m 5 = (p : Int)) (a6 : h1 m 6 = (p : Int)) : am_wp am_Md_go (d + 1) Y 96 [some (.inr (.inr m)), none, none, none, none] [] h1 (goQ h m s n lim p) := by
  have a3 : h1 m 3 = (n : Int) := by rw [g1.2 3 (by omega) (by omega) (by omega) (by omega) (by omega) (by omega)]; exact hn
  have at1 : h1 (m + 1) = h (m + 1) := g1.1 (m + 1) (by omega)
  refine ab_Md_go_96 hY ?_
  rw [a3, a5, at1]
  simp only [Int.toNat_natCast]
  refine ⟨fun c => ⟨by omega, ?_⟩, fun c h2 f2 => ?_⟩
  · have hpn2 : p < n := by omega
    have hb : p < min n lim := by omega
    obtain ⟨l1, l2, l3, l4, l5⟩ := su_lt hsu hpn2
    have hnb2 := hnb hpn2
    have word : ∀ (z z1 z2 : am_H) (y2 y3 : Int), z = h1 → z1 = am_u z m 12 0 → z2 = am_u z1 m 8 0 → y2 = (if 97 ≤ h (m + 1) p ∧ h (m + 1) p ≤ 122 then 1 else 0) → y3 = 1 → (97 ≤ s p ∧ s p ≤ 122 ∨ 48 ≤ s p ∧ s p ≤ 57) → aw_Md_go_215 (d + 1) Y m y2 y3 z2 (goQ h m s n lim p) := by
      rintro z z1 z2 y2 y3 rfl f2 f3 ey ey3 cW
      have q1 : mgo h z1 m := g1.trans (by rw [f2]; exact mgo.u (by omega))
      have q2 : mgo h z2 m := q1.trans (by rw [f3]; exact mgo.u (by omega))
      refine go_215 hY hn hn9 hsu hb hnb2 cW (p : Int) 0 z2 y2 y3 (by simp) (by omega) ⟨q2, ?_, ?_, rfl, fun j hj => by omega, fun _ _ => ?_, fun _ _ => ?_⟩ ?_
      · rw [f3, am_u_j (by omega), f2, am_u_j (by omega)]; exact a5
      · rw [f3, am_u_j (by omega), f2, am_u_j (by omega)]; exact a6
      · rw [f3, am_u_j (by omega), f2, am_u_s]; rfl
      · rw [f3, am_u_s]; rfl
      · have hy : (y2 = 0 ∨ y2 = 1) ∧ (y2 = 1 ↔ 97 ≤ s p ∧ s p ≤ 122) := by
          rw [ey, l1]
          by_cases z : 97 ≤ h (m + 1) p ∧ h (m + 1) p ≤ 122
          · rw [if_pos z]; exact ⟨Or.inr rfl, fun _ => z, fun _ => rfl⟩
          · rw [if_neg z]; exact ⟨Or.inl rfl, fun e => absurd e (by decide), fun e => absurd e z⟩
        refine ⟨Or.inr ey3, hy.1, fun _ => ?_, fun _ => ?_, fun z => by omega, hy.2⟩
        · rw [ey3]; simp [lxC]
        · rw [ey3]; simp [lxC]
    refine am_kI.of (ac_m_isLetter (d := d)) (by omega) ?_
    rintro x z1 - - ⟨ez1, rfl⟩
    refine ⟨fun cc => ?_, fun cc => ?_⟩
    · have cl : 97 ≤ h (m + 1) p ∧ h (m + 1) p ≤ 122 := by
        by_cases z : 97 ≤ h (m + 1) p ∧ h (m + 1) p ≤ 122
        · exact z
        · rw [if_neg z] at cc; exact absurd rfl cc
      refine am_kI.of (ac_m_isLetter (d := d)) (by omega) ?_
      rintro x z2 - - ⟨ez2, rfl⟩
      intro z3 f3 z4 f4
      exact word z2 z3 z4 _ _ (ez2.trans ez1) f3 f4 rfl rfl (Or.inl (l1.mpr cl))
    · have cl : ¬ (97 ≤ h (m + 1) p ∧ h (m + 1) p ≤ 122) := by
        intro z
        rw [if_pos z] at cc; exact absurd cc (by decide)
      refine am_kI.of (ac_m_isDigit (d := d)) (by omega) ?_
      rintro x z2 - - ⟨ez2, rfl⟩
      refine ⟨fun c2 => ?_, fun c2 => ?_⟩
      · have cd : 48 ≤ h (m + 1) p ∧ h (m + 1) p ≤ 57 := by
          by_cases z : 48 ≤ h (m + 1) p ∧ h (m + 1) p ≤ 57
          · exact z
          · rw [if_neg z] at c2; exact absurd rfl c2
        refine am_kI.of (ac_m_isLetter (d := d)) (by omega) ?_
        rintro x z3 - - ⟨ez3, rfl⟩
        intro z4 f4 z5 f5
        exact word z3 z4 z5 _ _ (ez3.trans (ez2.trans ez1)) f4 f5 rfl rfl (Or.inr (l2.mpr cd))
      · have cd : ¬ (48 ≤ h (m + 1) p ∧ h (m + 1) p ≤ 57) := by
          intro z
          rw [if_pos z] at c2; exact absurd c2 (by decide)
        have cW : ¬ (97 ≤ s p ∧ s p ≤ 122 ∨ 48 ≤ s p ∧ s p ≤ 57) := fun z => z.elim (fun z => cl (l1.mp z)) (fun z => cd (l2.mp z))
        have e21 : z2 = h1 := ez2.trans ez1
        have sg : ∀ (kd : Int), kd = (if lxg (h (m + 1) p) = 33 then 1 else 4) → ∀ z3 : am_H, z3 = am_u z2 m 7 kd → ∀ z4 : am_H, z4 = am_u z3 m 9 (h (m + 1) p) → am_ri (z4 m 5 + 1) ∧ ∀ z5 : am_H, z5 = am_u z4 m 5 (z4 m 5 + 1) → goQ h m s n lim p none z5 := by
          intro kd ek z3 f3 z4 f4
          have z45 : z4 m 5 = (p : Int) := by rw [f4, am_u_j (by omega), f3, am_u_j (by omega), e21]; exact a5
          rw [z45]
          rw [e21] at f3
          exact ⟨⟨by omega, by omega⟩, fun z5 f5 => go_sign hb hnb2 hsu g1 a6 f3 f4 f5 cW ek⟩
        refine ⟨fun k1 => sg 4 (by rw [k1]; rfl), fun n1 => ⟨fun k1 => sg 4 (by rw [k1]; rfl), fun n2 => ⟨fun k1 => sg 4 (by rw [k1]; rfl), fun n3 => ⟨fun k1 => sg 4 (by rw [k1]; rfl), fun n4 => ⟨fun k1 => sg 4 (by rw [k1]; rfl), fun n5 => ⟨fun n6 => sg 1 ?_, fun k1 => sg 4 (by rw [k1]; rfl)⟩⟩⟩⟩⟩⟩
        unfold lxg
        rw [if_neg n5, if_neg n6, if_neg n1, if_neg n2, if_neg n3, if_neg n4, if_pos rfl]
  · have g2 : mgo h h2 m := g1.trans (by rw [f2]; exact mgo.u (by omega))
    exact go_end (h1 := h1) (kd := 0) (by omega) hpn g2 (by rw [f2, am_u_j (by omega)]; exact a5) (by rw [f2, am_u_j (by omega), a6]; omega) (by rw [f2, am_u_s, if_neg (by omega)])
theorem ac_m_go {s : Nat → Int} {n lim p : Nat} (hY : am_at Y m am_L12) (hn : h m 3 = (n : Int)) (hlim : h m 4 = (lim : Int)) (hp : h m 5 = (p : Int)) (hpn : p ≤ n) (hn9 : n ≤ 940) (hsu : su s (h (m + 1)) n) : am_cV am_Md_go (d + 1) Y [.inr (.inr m)] h (fun h1 => MR h1 m s n lim (lxs s n lim p) ∧ mgo h h1 m) := by
  have key : ∀ (i : Int) (hh : am_H) (p : Nat), i = (p : Int) → p ≤ n → mgo h hh m → hh m 5 = (p : Int) → am_wp am_Md_go (d + 1) Y 0 [some (.inr (.inr m)), none, none, none, none] [] hh (goQ h m s n lim p) := by
    refine am_up (fun i => ∀ (hh : am_H) (p : Nat), i = (p : Int) → p ≤ n → mgo h hh m → hh m 5 = (p : Int) → am_wp am_Md_go (d + 1) Y 0 [some (.inr (.inr m)), none, none, none, none] [] hh (goQ h m s n lim p)) (n + 1 : Int) (fun i hi hh p ei pn _ _ => by omega) ?_
    intro i hi ih hh p ei pn hg h5
    have e3 : hh m 3 = (n : Int) := by rw [hg.2 3 (by omega) (by omega) (by omega) (by omega) (by omega) (by omega)]; exact hn
    have e4 : hh m 4 = (lim : Int) := by rw [hg.2 4 (by omega) (by omega) (by omega) (by omega) (by omega) (by omega)]; exact hlim
    have et : hh (m + 1) = h (m + 1) := hg.1 (m + 1) (by omega)
    have tok : (p < n → ¬ (s p = 32 ∨ s p = 10)) → ∀ h1 : am_H, h1 = am_u hh m 6 (p : Int) → (h1 m 3 ≤ h1 m 4 → am_wp am_Md_go (d + 1) Y 96 [some (.inr (.inr m)), none, none, none, none] [] h1 (goQ h m s n lim p)) ∧ (h1 m 4 < h1 m 3 → (h1 m 6 < h1 m 4 → am_wp am_Md_go (d + 1) Y 96 [some (.inr (.inr m)), none, none, none, none] [] h1 (goQ h m s n lim p)) ∧ (h1 m 4 ≤ h1 m 6 → ∀ h2 : am_H, h2 = am_u h1 m 6 (h1 m 4) → ∀ h3 : am_H, h3 = am_u h2 m 7 1 → goQ h m s n lim p none h3)) := by
      intro hnb h1 f1
      have g1 : mgo h h1 m := hg.trans (by rw [f1]; exact mgo.u (by omega))
      have a3 : h1 m 3 = (n : Int) := by rw [f1, am_u_j (by omega)]; exact e3
      have a4 : h1 m 4 = (lim : Int) := by rw [f1, am_u_j (by omega)]; exact e4
      have a5 : h1 m 5 = (p : Int) := by rw [f1, am_u_j (by omega)]; exact h5
      have a6 : h1 m 6 = (p : Int) := by rw [f1, am_u_s]
      rw [a3, a4, a6]
      refine ⟨fun c => go_96 hY hn hn9 hsu pn (by omega) hnb g1 a5 a6, fun c => ⟨fun c2 => go_96 hY hn hn9 hsu pn (by omega) hnb g1 a5 a6, fun c2 h2 f2 h3 f3 => ?_⟩⟩
      have g2 : mgo h h2 m := g1.trans (by rw [f2]; exact mgo.u (by omega))
      have g3 : mgo h h3 m := g2.trans (by rw [f3]; exact mgo.u (by omega))
      exact go_end (h1 := h1) (kd := 0) (by omega) pn g3 (by rw [f3, am_u_j (by omega), f2, am_u_j (by omega)]; exact a5) (by rw [f3, am_u_j (by omega), f2, am_u_s]; omega) (by rw [f3, am_u_s, if_pos (by omega)])
    have blank : (s p = 32 ∨ s p = 10) → p < n → ∀ h6 : am_H, h6 = am_u hh m 5 ((p : Int) + 1) → am_wp am_Md_go (d + 1) Y 0 [some (.inr (.inr m)), none, none, none, none] [] h6 (goQ h m s n lim p) := by
      intro hb hpn h6 f6
      unfold goQ at ih ⊢
      rw [lxs_blank2 s n lim p hb]
      exact ih h6 (p + 1) (by omega) (by omega) (hg.trans (by rw [f6]; exact mgo.u (by omega))) (by rw [f6, am_u_s]; omega)
    refine ab_Md_go_0 hY ?_
    rw [e3, h5, et]
    simp only [Int.toNat_natCast]
    have lt := fun (z : p < n) => su_lt hsu z
    refine ⟨fun c => tok (fun z => by omega), fun c => ⟨by omega, fun c1 => ⟨⟨by omega, by omega⟩, fun h6 f6 => blank ?_ (by omega) h6 f6⟩, fun c1 => ⟨by omega, fun c2 => tok (fun z => ?_), fun c2 => ⟨⟨by omega, by omega⟩, fun h6 f6 => blank ?_ (by omega) h6 f6⟩⟩⟩⟩
    · exact Or.inl (((lt (by omega)).2.2.2.1 (by omega)).trans c1)
    · have h3 := (lt z).2.2.1
      rintro (e | e)
      · exact c1 ((h3 (by omega) (by omega)).trans e)
      · exact c2 ((h3 (by omega) (by omega)).trans e)
    · exact Or.inr (((lt (by omega)).2.2.2.1 (by omega)).trans c2)
  exact am_Met.of (by decide) rfl (Nat.le_of_ble_eq_true rfl) (key (p : Int) h p rfl hpn mgo.refl hp)
end
