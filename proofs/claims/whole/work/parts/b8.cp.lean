/-! The class's forest: countPart -/
section CP
variable {G : gT} {n : Int} {w : Int → Int} {T : Int → Int → Int → Bool} {i j : Int} {M M' : ev_M} {K : Int → Int → Int → Prop} {ρ : Int → Int → Int → Int}
theorem kid_le {m x p q : Int} (hG : okG G) (hT : okT n w) (hD : isD G n w T) (hk : kid G T m i j x p q) : i ≤ p ∧ q ≤ j := by
  obtain ⟨r, d, hr, hl, hd, h5, hx, hpt, hdr, hsf⟩ := (kid_iff hG hT hD).mp hk
  exact ⟨pth_le (fun x a b h => (h.rng hG hT).2.2.1) hpt, sf_le (fun x a b h => (h.rng hG hT).2.2.1) _ _ hsf⟩
abbrev tA : List Nat := [21, 22, 23, 24]
/-- every open maker has an open one within -/
def stk (G : gT) (T : Int → Int → Int → Bool) (i j O : Int) : Prop := ∀ x : Int, 0 ≤ x → bt O x.toNat = true → ∃ y : Int, 0 ≤ y ∧ bt O y.toNat = true ∧ kid G T x i j y i j
def ocn (O : Int) : Nat := cntB (fun k => bt O k) 6
/-- what countPart keeps -/
def pI (G : gT) (n : Int) (T : Int → Int → Int → Bool) (K : Int → Int → Int → Prop) (i j : Int) (M : ev_M) (O : Int) (M1 : ev_M) : Prop := fr [] tA M M1 ∧ (0 ≤ O ∧ O < 64) ∧ (∀ x : Int, 0 ≤ x → bt O x.toNat = true → usd G n T x i j) ∧ ∃ (K1 : Int → Int → Int → Prop) (ρ1 : Int → Int → Int → Int) (c : Int), FI G n T K1 ρ1 M1 ∧ (∀ m x y : Int, K1 m x y ↔ (K m x y ∨ (x = i ∧ y = j ∧ usd G n T m i j ∧ ¬ bt O m.toNat = true))) ∧ (∀ m : Int, usd G n T m i j → ¬ bt O m.toNat = true → ρ1 m i j < 6 * (j - i) + c) ∧ 0 ≤ c ∧ c + (ocn O : Int) ≤ 6
theorem pI.fr2 {M1 : ev_M} {O : Int} (h : pI G n T K i j M O M1) : fr [] tA M M1 := h.1
set_option maxHeartbeats 1000000 in
theorem g_m52 {Q : Int → ev_M → Prop} (hG : okG G) (hT : okT n w) (hD : isD G n w T) (hC : isC G M) (hc : CHT G n w M) (hU : UU G n T M) (hij : 0 ≤ i ∧ i ≤ j ∧ j ≤ n) (hF : FI G n T K ρ M) (hsm : ∀ m x y : Int, usd G n T m x y → y - x < j - i → K m x y) (hno : ∀ m : Int, ¬ K m i j)
    (h1 : ∀ (M' : ev_M) (K' : Int → Int → Int → Prop) (ρ' : Int → Int → Int → Int), fr [] tA M M' → FI G n T K' ρ' M' → (∀ m x y : Int, K' m x y ↔ (K m x y ∨ (x = i ∧ y = j ∧ usd G n T m i j))) → Q 1 M')
    (h0 : ∀ M' : ev_M, fr [] tA M M' → (∃ (K' : Int → Int → Int → Prop) (ρ' : Int → Int → Int → Int), FI G n T K' ρ' M') → END G n T → Q 0 M') : m52 i j M Q := by
  have hn := hT.1
  -- the end
  have fin : ∀ (O : Int) (M1 : ev_M), pI G n T K i j M O M1 → (O = 0 ∨ stk G T i j O) → c52_118 O M1 Q := by
    intro O M1 hp hO
    obtain ⟨hf1, hOr, hOu, K1, ρ1, c, hF1, hK1, -⟩ := hp
    refine b52_118 ⟨fun hne => b52_127 ⟨Or.inl rfl, h0 M1 hf1 ⟨K1, ρ1, hF1⟩ ?_⟩, fun he => b52_127 ⟨Or.inr rfl, h1 M1 K1 ρ1 hf1 hF1 (fun m x y => (hK1 m x y).trans ⟨?_, ?_⟩)⟩⟩
    · rcases hO with e | hs
      · exact absurd e hne
      · refine ⟨fun m x y => x = i ∧ y = j ∧ 0 ≤ m ∧ bt O m.toNat = true, ?_, ?_⟩
        · refine Classical.byContradiction (fun hnone => hne (bt_ext hOr.1 (by omega) (fun k => ?_)))
          rw [bt_zero]
          exact Bool.eq_false_iff.mpr (fun hb => hnone ⟨(k : Int), i, j, rfl, rfl, by omega, by rw [show ((k : Int)).toNat = k by omega]; exact hb⟩)
        · rintro m x y ⟨rfl, rfl, m0, hb⟩
          obtain ⟨y', y0, y1, y2⟩ := hs m m0 hb
          exact ⟨hOu m m0 hb, y', x, y, y2, rfl, rfl, y0, y1⟩
    · rintro (h | ⟨a1, a2, a3, -⟩)
      · exact Or.inl h
      · exact Or.inr ⟨a1, a2, a3⟩
    · have e : O = 0 := Decidable.of_not_not he
      rintro (h | ⟨a1, a2, a3⟩)
      · exact Or.inl h
      · exact Or.inr ⟨a1, a2, a3, by rw [e, bt_zero]; decide⟩
  -- the rounds
  have key : ∀ (k : Nat) (t O : Int) (M1 : ev_M), 6 - t ≤ k → 0 ≤ t → t ≤ 6 → pI G n T K i j M O M1 → (stk G T i j O ∨ t + (ocn O : Int) ≤ 6) → c52_46 i j O t M1 Q := by
    have last : ∀ (O : Int) (M1 : ev_M), pI G n T K i j M O M1 → (stk G T i j O ∨ 6 + (ocn O : Int) ≤ 6) → c52_118 O M1 Q := by
      intro O M1 hp hs
      refine fin O M1 hp ?_
      rcases hs with hs | hs
      · exact Or.inr hs
      · refine Or.inl (bt_ext hp.2.1.1 (by omega) (fun k => ?_))
        rw [bt_zero]
        refine Bool.eq_false_iff.mpr (fun hb => ?_)
        by_cases hk : k < 6
        · have : 0 < ocn O := by
            have h3 := cntB_lt (f := fun _ => false) (g := fun k => bt O k) (n := 6) (k := k) (fun _ _ h => absurd h (by decide)) hk rfl hb
            unfold ocn
            omega
          omega
        · rw [bt_hi (n := 6) hp.2.1.2 (by omega)] at hb
          exact absurd hb (by decide)
    intro k
    induction k with
    | zero =>
      intro t O M1 hk t0 t6 hp hs
      have e : t = 6 := by omega
      subst e
      exact b52_46 ⟨fun _ => last O M1 hp hs, fun g => absurd (by omega) g⟩
    | succ k ihk =>
      intro t O M1 hk t0 t6 hp hs
      by_cases et : t = 6
      · subst et
        exact b52_46 ⟨fun _ => last O M1 hp hs, fun g => absurd (by omega) g⟩
      refine b52_46 ⟨fun g => absurd g (by omega), fun _ => ⟨fun hO0 => fin O M1 hp (Or.inl hO0), fun hO1 => ?_⟩⟩
      -- one round over the makers
      refine lp (σ := Int × ev_M) (n := 6) (c := fun x s => c52_60 i j s.1 t x s.2 Q) (P := fun x s => pI G n T K i j M s.1 s.2 ∧ (∀ y : Int, 0 ≤ y → bt s.1 y.toNat = true → bt O y.toNat = true) ∧ (stk G T i j O → s.1 = O) ∧ ∀ y : Int, 0 ≤ y → y < x → bt O y.toNat = true → (∀ z : Int, 0 ≤ z → bt O z.toNat = true → ¬ kid G T y i j z i j) → ¬ bt s.1 y.toNat = true) ?_ ?_ (r := 0) (s := (O, M1)) (by omega) (by omega) ⟨hp, fun _ _ h => h, fun _ => rfl, fun y a1 a2 => by omega⟩
      · rintro x ⟨O2, M2⟩ x0 x1 ⟨hp2, hsub, hst, hdn⟩ ih
        dsimp only at hp2 hsub hst hdn ih ⊢
        have hOr := hp2.2.1
        have skip : ∀ M3 : ev_M, M3 = M2 → (bt O x.toNat = true → (∀ z : Int, 0 ≤ z → bt O z.toNat = true → ¬ kid G T x i j z i j) → ¬ bt O2 x.toNat = true) → c52_106 i j O2 t x M3 Q := by
          intro M3 e3 hx
          subst e3
          refine b52_106 ⟨⟨by omega, by omega⟩, ih (O2, M3) ⟨hp2, hsub, hst, fun y a1 a2 a3 a4 => ?_⟩⟩
          by_cases e : y = x
          · subst e; exact hx a3 a4
          · exact hdn y a1 (by omega) a3 a4
        refine b52_60 ⟨fun g => absurd g (by omega), fun _ => ⟨⟨hOr.1, by omega⟩, ⟨by omega, by omega⟩, sr_i ⟨hOr.1, by omega⟩, fun g => skip M2 rfl (fun _ _ => by rw [bt_sr.mp g]; decide), fun g => ?_⟩⟩
        have hbx : bt O2 x.toNat = true := by
          cases hb : bt O2 x.toNat with
          | true => rfl
          | false => exact absurd (bt_sr.mpr hb) g
        have hf2 := hp2.1
        have hC2 : isC G M2 := hC.of (hf2.1 3 (by decide)) (hf2.2 2 (by decide)) (hf2.2 3 (by decide)) (hf2.2 4 (by decide))
        have hc2 : CHT G n w M2 := hc.of (hf2.2 12 (by decide))
        have hux := hp2.2.2.1 x x0 hbx
        refine g_m48 hG hT hD hC2 hc2 hij (fun W hW hWb => ⟨⟨hOr.1, by omega⟩, ⟨hW.1, by omega⟩, fun hne => skip M2 rfl (fun _ hall => ?_), fun he => ?_⟩)
        · -- an open one within
          exfalso
          refine hne (bt_ext (Int.natCast_nonneg _) (by omega) (fun k => ?_))
          rw [bt_zero, bt_an2]
          refine Bool.eq_false_iff.mpr (fun hb => ?_)
          rw [Bool.and_eq_true] at hb
          have hk1 : bt W ((k : Int)).toNat = true := by rw [show ((k : Int)).toNat = k by omega]; exact hb.2
          have hk2 : bt O2 ((k : Int)).toNat = true := by rw [show ((k : Int)).toNat = k by omega]; exact hb.1
          exact hall (k : Int) (by omega) (hsub _ (by omega) hk2) ((hWb (k : Int) (by omega)).mp hk1)
        · have he0 : tm_an O2 W = 0 := Decidable.of_not_not he
          have hfree : ∀ y : Int, 0 ≤ y → kid G T x i j y i j → ¬ bt O2 y.toNat = true := by
            intro y y0 hkd hb
            have h5 : bt (tm_an O2 W) y.toNat = true := by rw [bt_an2, hb, (hWb y y0).mpr hkd]; rfl
            rw [he0, bt_zero] at h5
            exact absurd h5 (by decide)
          obtain ⟨-, -, hOu, K1, ρ1, c, hF1, hK1, hρ1, c0, hcn⟩ := hp2
          have hkin : ∀ a p e : Int, kid G T x i j a p e → K1 a p e ∧ ρ1 a p e < 6 * (j - i) + c := by
            intro a p e hkd
            have hua := hux.kid hkd
            have hra := hua.rng hG hT hD
            by_cases hsame : p = i ∧ e = j
            · obtain ⟨rfl, rfl⟩ := hsame
              have hb := hfree a (by omega) hkd
              exact ⟨(hK1 _ _ _).mpr (Or.inr ⟨rfl, rfl, hua, hb⟩), hρ1 a hua hb⟩
            · -- a smaller part
              have hsmall : i ≤ p ∧ e ≤ j := kid_le hG hT hD hkd
              have hKa := hsm a p e hua (by omega)
              have hK1a := (hK1 _ _ _).mpr (Or.inl hKa)
              have := (hF1.2.2.2.2.1 _ _ _ hK1a).1
              exact ⟨hK1a, by omega⟩
          have hnk : ¬ K1 x i j := by
            intro hk1
            rcases (hK1 _ _ _).mp hk1 with h5 | ⟨-, -, -, h5⟩
            · exact hno x h5
            · exact h5 hbx
          have hz0 : vC M2 x i j = 0 := Decidable.byContradiction (fun hne => hnk (hF1.2.2.1 x i j (by omega) hne))
          have hsl := sl_rng (y := x) (n := 6) (by omega)
          refine g_m51 hG hC2 hF1.1 (hF1.ord hG hT hD) (hF1.hfl hG hT hD) ⟨x0, by omega⟩ ⟨hij.1, hij.2.1, by omega⟩ hz0 (fun M3 hf3 g1 g2 g3 => ⟨⟨by omega, by omega⟩, sl_i2 ⟨by omega, by omega⟩, ?_⟩)
          obtain ⟨Z, eZ, hZ, hZb⟩ := i2_an (x := O2) (y := tm_sl 1 x) (by omega) (by omega)
          rw [eZ]
          have hZ2 : ∀ y : Int, 0 ≤ y → (bt Z y.toNat = true ↔ (bt O2 y.toNat = true ∧ y ≠ x)) := by
            intro y y0
            by_cases hy : y.toNat < 32
            · rw [hZb _ hy, bt_sl, Bool.and_eq_true]
              by_cases e : y = x
              · rw [e, decide_eq_true rfl]
                exact ⟨fun h => absurd h.2 (by decide), fun h => absurd rfl h.2⟩
              · rw [decide_eq_false (by omega)]
                exact ⟨fun h => ⟨h.1, e⟩, fun h => ⟨h.1, rfl⟩⟩
            · rw [bt_hi (n := 6) (x := Z) (by have : ((2 ^ 6 : Nat) : Int) = 64 := by decide
                                              omega) (by omega), bt_hi (n := 6) hOr.2 (by omega)]
              exact ⟨fun h => absurd h (by decide), fun h => absurd h.1 (by decide)⟩
          have hcnt : ocn Z < ocn O2 := by
            refine cntB_lt (k := x.toNat) (fun q hq hb => ?_) (by omega) ?_ hbx
            · have := (hZ2 (q : Int) (by omega)).mp (by rw [show ((q : Int)).toNat = q by omega]; exact hb)
              rw [show ((q : Int)).toNat = q by omega] at this
              exact this.1
            · exact Bool.eq_false_iff.mpr (fun hb => ((hZ2 x x0).mp hb).2 rfl)
          obtain ⟨ρ2, r1, r2, hF2⟩ := hF1.add (M' := M3) hG hT hD hux hnk (p := c) ⟨c0, by omega⟩ hkin g1 g2 g3
          refine b52_106 ⟨⟨by omega, by omega⟩, ih (Z, M3) ⟨⟨hf2.trans hf3, by omega, fun y y0 hb => hOu y y0 ((hZ2 y y0).mp hb).1, _, ρ2, c + 1, hF2, fun m a b => ?_, fun m hum hb => ?_, by omega, by show c + 1 + (ocn Z : Int) ≤ 6; omega⟩, fun y y0 hb => hsub y y0 ((hZ2 y y0).mp hb).1, fun hs0 => ?_, fun y a1 a2 a3 a4 => ?_⟩⟩
          · constructor
            · rintro (h5 | ⟨rfl, rfl, rfl⟩)
              · rcases (hK1 _ _ _).mp h5 with h5 | ⟨a1, a2, a3, a4⟩
                · exact Or.inl h5
                · have hm0 := (a3.rng hG hT hD).1.1
                  exact Or.inr ⟨a1, a2, a3, fun hb => a4 ((hZ2 m hm0).mp hb).1⟩
              · exact Or.inr ⟨rfl, rfl, hux, fun hb => ((hZ2 m x0).mp hb).2 rfl⟩
            · rintro (h5 | ⟨rfl, rfl, a3, a4⟩)
              · exact Or.inl ((hK1 _ _ _).mpr (Or.inl h5))
              · have hm0 := (a3.rng hG hT hD).1.1
                by_cases e : m = x
                · exact Or.inr ⟨e, rfl, rfl⟩
                · exact Or.inl ((hK1 _ _ _).mpr (Or.inr ⟨rfl, rfl, a3, fun hb => a4 ((hZ2 m hm0).mpr ⟨hb, e⟩)⟩))
          · have hm0 := (hum.rng hG hT hD).1.1
            by_cases e : m = x
            · subst e; rw [r2]; omega
            · rw [r1 _ _ _ (fun hh => e hh.1)]
              have := hρ1 m hum (fun hb2 => hb ((hZ2 m hm0).mpr ⟨hb2, e⟩))
              omega
          · exfalso
            have eO := hst hs0
            obtain ⟨y, y0, y1, y2⟩ := hs0 x x0 (by rw [← eO]; exact hbx)
            exact hfree y y0 y2 (by rw [eO]; exact y1)
          · by_cases e : y = x
            · subst e; exact fun hb => ((hZ2 y a1).mp hb).2 rfl
            · exact fun hb => hdn y a1 (by omega) a3 a4 ((hZ2 y a1).mp hb).1
      · rintro ⟨O2, M2⟩ ⟨hp2, hsub, hst, hdn⟩
        dsimp only at hp2 hsub hst hdn ⊢
        refine b52_60 ⟨fun _ => ⟨⟨by omega, by omega⟩, ihk (t + 1) O2 M2 (by omega) (by omega) (by omega) hp2 ?_⟩, fun g => absurd (by omega) g⟩
        by_cases hs0 : stk G T i j O
        · left; rw [hst hs0]; exact hs0
        · right
          have hex : ∃ y : Int, 0 ≤ y ∧ bt O y.toNat = true ∧ ∀ z : Int, 0 ≤ z → bt O z.toNat = true → ¬ kid G T y i j z i j := by
            refine Classical.byContradiction (fun hnone => hs0 (fun y y0 hb => ?_))
            refine Classical.byContradiction (fun hn2 => hnone ⟨y, y0, hb, fun z z0 hz hk => hn2 ⟨z, z0, hz, hk⟩⟩)
          obtain ⟨y, y0, y1, y2⟩ := hex
          have hy6 : y < 6 := by
            have := (hp.2.2.1 y y0 y1).rng hG hT hD
            omega
          have hlt : ocn O2 < ocn O := by
            refine cntB_lt (k := y.toNat) (fun q hq hb => ?_) (by omega) ?_ y1
            · have := hsub (q : Int) (by omega) (by rw [show ((q : Int)).toNat = q by omega]; exact hb)
              rw [show ((q : Int)).toNat = q by omega] at this
              exact this
            · exact Bool.eq_false_iff.mpr (hdn y y0 hy6 y1 y2)
          rcases hs with hs | hs
          · exact absurd hs hs0
          · omega
  -- the open makers at the beginning
  refine b52 ?_
  refine lp (σ := Int) (n := 6) (c := fun x O => c52_5 i j O x M Q) (P := fun x O => (0 ≤ O ∧ O < 64) ∧ ∀ y : Int, 0 ≤ y → (bt O y.toNat = true ↔ (y < x ∧ usd G n T y i j))) ?_ ?_ (by omega) (by omega) ⟨by omega, fun y y0 => by rw [bt_zero]; exact ⟨fun h => absurd h (by decide), fun h => by omega⟩⟩
  · intro x O x0 x1 hP ih
    refine b52_5 ⟨fun g => absurd g (by omega), fun _ => g_m34 hU ⟨x0, x1⟩ ⟨by omega, by omega⟩ ⟨by omega, by omega⟩ (fun hu => ⟨fun g => absurd g (by decide), fun _ => ⟨⟨by omega, by omega⟩, sl_i2 ⟨by omega, by omega⟩, b52_35 ⟨⟨hP.1.1, by omega⟩, ?_, ⟨by omega, by omega⟩, ih _ ⟨or_rng (n := 6) hP.1 (by omega), fun y y0 => ?_⟩⟩⟩⟩) (fun hu => ⟨fun _ => b52_35 ⟨⟨hP.1.1, by omega⟩, ⟨by omega, by omega⟩, ⟨by omega, by omega⟩, ih _ ⟨or2_rng (n := 6) hP.1 ⟨by omega, by decide⟩, fun y y0 => ?_⟩⟩, fun g => absurd rfl g⟩)⟩
    · have := sl_rng (y := x) (n := 6) (by omega)
      exact ⟨this.1, by omega⟩
    · rw [bt_or, Bool.or_eq_true, decide_eq_true_iff, hP.2 y y0]
      constructor
      · rintro (h | h)
        · exact ⟨by omega, h.2⟩
        · have e : y = x := by omega
          subst e; exact ⟨by omega, hu⟩
      · rintro ⟨a1, a2⟩
        by_cases e : y = x
        · exact Or.inr (by omega)
        · exact Or.inl ⟨by omega, a2⟩
    · rw [bt_or2, bt_zero, Bool.or_false, hP.2 y y0]
      constructor
      · rintro h; exact ⟨by omega, h.2⟩
      · rintro ⟨a1, a2⟩
        by_cases e : y = x
        · subst e; exact absurd a2 hu
        · exact ⟨by omega, a2⟩
  · intro O hP
    have hOu : ∀ y : Int, 0 ≤ y → (bt O y.toNat = true ↔ usd G n T y i j) := fun y y0 => (hP.2 y y0).trans ⟨fun h => h.2, fun h => ⟨by have := (h.rng hG hT hD).1; omega, h⟩⟩
    have h6 : ocn O ≤ 6 := cntB_le
    refine b52_5 ⟨fun _ => key 6 0 O M (by omega) (by omega) (by omega) ⟨fr.refl, hP.1, fun y y0 hb => (hOu y y0).mp hb, K, ρ, 0, hF, fun m x y => ⟨fun h => Or.inl h, fun h => h.elim id (fun ⟨a1, a2, a3, a4⟩ => absurd ((hOu m (a3.rng hG hT hD).1.1).mpr a3) a4)⟩, fun m hum hb => absurd ((hOu m (hum.rng hG hT hD).1.1).mpr hum) hb, by omega, by omega⟩ (Or.inr (by omega)), fun g => absurd (by omega) g⟩
end CP
