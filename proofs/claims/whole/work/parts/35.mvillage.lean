/-! contracts: the reference reads all lines of a village -/
/-- all lines: how many, and what is told -/
def pLines : Nat → Int → Int → VS → PE (Int × VS)
  | 0, _, c, S => .inr (c, S)
  | f + 1, g, c, S => if (hd S.2.2).1 = 32 then .inr (c, S) else pbd (pLine g S) fun B => pLines f B.1 (c + 1) B.2
section
variable {d : Nat} {Y : am_Y} {h : am_H} {m : Nat} {s : Nat → Int} {n lim : Nat} {r : List TK}
theorem pLine_lt {g : Int} {S : VS} {B : Int × VS} (e : pLine g S = .inr B) : (hd S.2.2).1 < 32 := by
  unfold pLine at e
  split at e
  · omega
  · split at e
    · omega
    · split at e
      · omega
      · cases e
theorem loop59 {h0 : am_H} {E : PE (Int × VS)} {Q : Option am_V → am_H → Prop} (hY : am_at Y m am_L12) (hc : MC h0 m s n lim)
    (hbad : ∀ h1 (q : Int × Int), E = .inl q → mFr h0 h1 m → h1 m 10 = q.1 → h1 m 11 = q.2 → Q (some (.inl (-1 - q.2))) h1)
    (hend : ∀ h1 (c : Int) (S : VS), E = .inr (c, S) → mFr h0 h1 m → rS h1 m s n lim S → wV S.1 → aw_Md_village_88 (d + 6) Y m c 0 h1 Q) :
    ∀ (f : Nat) (h : am_H) (g c : Int) (S : VS), S.2.2.length ≤ f → f ≤ 1000 → 0 ≤ c → c + f ≤ 100000 → rS h m s n lim S → mFr h0 h m → h m 23 = g → wV S.1 → E = pLines f g c S → aw_Md_village_59 (d + 6) Y m c h Q
  | 0, h, g, c, S, hl, _, _, _, hS, _, _, _, _ => by
    obtain ⟨⟨a, l, e, -⟩, -⟩ := hS.2.2
    rw [e] at hl
    simp at hl
  | f + 1, h, g, c, S, hl, hf, c0, c1, hS, F, G, V, hE => by
    have hS' := hS
    obtain ⟨a3, a7, hr⟩ := hS'
    have h7 := mK_7 hr.hd.1
    refine ab_Md_village_59 hY ⟨fun z => ?_, fun z => ?_⟩
    · have k32 := h7.2.2.2.1.mp z
      exact hend h c S (by rw [hE]; exact if_pos k32) F hS V
    · have k32 : ¬ (hd S.2.2).1 = 32 := fun w => z (h7.2.2.2.1.mpr w)
      have hE2 : E = pbd (pLine g S) fun B => pLines f B.1 (c + 1) B.2 := by rw [hE]; exact if_neg k32
      refine am_kI.of (ac_m_readLine (d := d) hY (hc.fr F) hr (by rw [a3]; exact V.1) (by rw [a3]; exact V.2) (by omega)) (by omega) ?_
      rintro x h1 ho - ⟨f1, o1⟩
      rw [a3, a7, G] at o1
      cases hL : pLine g S with
      | inl q =>
        have hL' : pLine g (S.1, S.2.1, S.2.2) = .inl q := hL
        rw [hL'] at o1
        obtain ⟨rfl, o2, o3⟩ := o1
        refine ⟨fun z => absurd rfl z, fun _ => ⟨?_, ?_⟩⟩
        · have hri : am_ri (h1 m 11) := (ho m _ (hY 0 _ rfl) 11).1 (by decide)
          unfold am_ri at hri ⊢
          omega
        · rw [o3]
          exact hbad h1 q (by rw [hE2, hL]; rfl) (F.trans f1) o2 o3
      | inr B =>
        have hL' : pLine g (S.1, S.2.1, S.2.2) = .inr B := hL
        rw [hL'] at o1
        obtain ⟨rfl, o2, o3⟩ := o1
        have i := pLine_i (g' := B.1) (B := B.2) V hL
        have len := MR_len hr (pLine_lt hL)
        refine ⟨fun _ => ⟨⟨by omega, by omega⟩, ?_⟩, fun z => absurd z (by decide)⟩
        exact loop59 hY hc hbad hend f h1 B.1 (c + 1) B.2 (by omega) (by omega) (by omega) (by omega) o2 (F.trans f1) o3 i.1 (by rw [hE2, hL]; rfl)
end
