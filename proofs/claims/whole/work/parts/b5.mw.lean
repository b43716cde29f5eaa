/-! The class's forest: makers within a node of the same part -/
section MW2
variable {G : gT} {n : Int} {w : Int → Int} {T : Int → Int → Int → Bool} {D : Int → Int → Int → Prop} {m i j r x : Int} {M M' : ev_M}
theorem i2_an {x y : Int} (hx : 0 ≤ x ∧ x < 2147483648) (hy : 0 ≤ y ∧ y < 2147483648) : ∃ z : Int, tm_i2 (fun a b => a &&& b) x (tm_i2 (fun a b => a ^^^ b) y (-1)) = z ∧ (0 ≤ z ∧ z ≤ x) ∧ ∀ j : Nat, j < 32 → bt z j = (bt x j && !bt y j) := by
  obtain ⟨a, rfl⟩ := Int.eq_ofNat_of_zero_le hx.1
  obtain ⟨b, rfl⟩ := Int.eq_ofNat_of_zero_le hy.1
  have ha : a < 2147483648 := by omega
  have hb : b < 2147483648 := by omega
  have hle : a &&& (b ^^^ 4294967295) ≤ a := Nat.and_le_left
  have e : Int32.ofInt (a : Int) &&& Int32.ofInt ((Int32.ofInt (b : Int) ^^^ Int32.ofInt (-1)).toInt) = Int32.ofNat (a &&& (b ^^^ 4294967295)) := by
    rw [Int32.ofInt_toInt]
    apply Int32.toBitVec_inj.mp
    apply BitVec.eq_of_toNat_eq
    have e1 : (Int32.ofInt (a : Int)).toBitVec.toNat = a := by
      simp
      omega
    have e2 : (Int32.ofInt (b : Int)).toBitVec.toNat = b := by
      simp
      omega
    have e3 : (Int32.ofInt (-1)).toBitVec.toNat = 4294967295 := by decide
    have e4 : (Int32.ofNat (a &&& (b ^^^ 4294967295))).toBitVec.toNat = a &&& (b ^^^ 4294967295) := by
      show (BitVec.ofNat 32 (a &&& (b ^^^ 4294967295))).toNat = _
      rw [BitVec.toNat_ofNat]
      exact Nat.mod_eq_of_lt (by omega)
    rw [e4]
    show ((Int32.ofInt (a : Int)).toBitVec &&& ((Int32.ofInt (b : Int)).toBitVec ^^^ (Int32.ofInt (-1)).toBitVec)).toNat = _
    rw [BitVec.toNat_and, BitVec.toNat_xor, e1, e2, e3]
  refine ⟨((a &&& (b ^^^ 4294967295) : Nat) : Int), ?_, ⟨by omega, by omega⟩, fun j hj => ?_⟩
  · unfold tm_i2
    dsimp only
    rw [e]
    exact Int32.toInt_ofNat_of_lt (by omega)
  · show Nat.testBit (((a &&& (b ^^^ 4294967295) : Nat) : Int).toNat) j = (Nat.testBit ((a : Int).toNat) j && !Nat.testBit ((b : Int).toNat) j)
    rw [Int.toNat_natCast, Int.toNat_natCast, Int.toNat_natCast, Nat.testBit_and, Nat.testBit_xor]
    have e5 : Nat.testBit 4294967295 j = true := by
      rw [show (4294967295 : Nat) = 2 ^ 32 - 1 by decide, Nat.testBit_two_pow_sub_one, decide_eq_true hj]
    rw [e5, Bool.xor_true]
/-- all symbols but one stand for nothing -/
def othN (G : gT) (r d : Int) : Prop := ∀ k : Int, 0 ≤ k → k < gz G r → k ≠ d → gs G r k < 6 ∧ nul G (gs G r k)
theorem g_m47 {Q : Int → ev_M → Prop} {d : Int} (hG : okG G) (hT : okT n w) (hC : isC G M) (hc : CHT G n w M) (hr : 0 ≤ r ∧ r < gn G) (h1 : othN G r d → Q 1 M) (h0 : ¬ othN G r d → Q 0 M) : m47 r d M Q := by
  have gc := hG.1
  have hg := hG.2 r hr.1 hr.2
  obtain ⟨-, esz, esy⟩ := hC.2 r hr.1 hr.2
  refine b47 ?_
  refine lp (σ := Unit) (n := gz G r) (c := fun k _ => c47_2 r d k M Q) (P := fun k _ => ∀ k' : Int, 0 ≤ k' → k' < k → k' ≠ d → gs G r k' < 6 ∧ nul G (gs G r k')) ?_ ?_ (s := ()) (by omega) hg.2.1.1 (fun k' a1 a2 => by omega)
  · rintro k _ k0 k1 hP ih
    have hsy := hg.2.2 k k0 k1
    have on : (k ≠ d → gs G r k < 6 ∧ nul G (gs G r k)) → c47_41 r d k M Q := by
      intro hx
      refine b47_41 ⟨⟨by omega, by omega⟩, ih () (fun k' a1 a2 a3 => ?_)⟩
      by_cases e : k' = k
      · subst e; exact hx a3
      · exact hP k' a1 (by omega) a3
    refine b47_2 ⟨⟨hr.1, by omega⟩, fun g => absurd g (by rw [esz]; omega), fun _ => ⟨fun e => on (fun hne => absurd e hne), fun hne => g_m4 ⟨hr.1, by omega⟩ ⟨k0, by omega⟩ ?_⟩⟩
    rw [esy k k0 k1]
    exact g_m20 hG hT hc hsy (fun h6 hn => ⟨fun _ => on (fun _ => ⟨h6, hn⟩), fun g => absurd (by decide) g⟩) (fun hn => ⟨fun g => absurd rfl g, fun _ => h0 (fun ho => hn (ho k k0 k1 hne))⟩)
  · rintro _ hP
    exact b47_2 ⟨⟨hr.1, by omega⟩, fun _ => h1 hP, fun g => absurd (by rw [esz]; omega) g⟩
theorem sf_le {z : Nat} (h : ∀ x a b : Int, D x a b → a ≤ b) : ∀ (k : Nat) (p : Int), sf G D r z k p j → p ≤ j := by
  intro k
  induction k with
  | zero => intro p hp; exact Int.le_of_eq hp
  | succ k ih =>
    rintro p ⟨e, h1, h2⟩
    exact Int.le_trans (h _ _ _ h1) (ih e h2)
theorem sf_flat {z : Nat} (h : ∀ x a b : Int, D x a b → a ≤ b) : ∀ k : Nat, k ≤ z → sf G D r z k j j → ∀ d : Nat, z - k ≤ d → d < z → D (gs G r (d : Int)) j j := by
  intro k
  induction k with
  | zero => intro _ _ d d0 d1; omega
  | succ k ih =>
    rintro hk ⟨e, h1, h2⟩ d d0 d1
    have e1 : e = j := Int.le_antisymm (sf_le h k e h2) (h _ _ _ h1)
    subst e1
    by_cases e2 : d = z - (k + 1)
    · subst e2; exact h1
    · exact ih (by omega) h2 d (by omega) d1
theorem sf_all {z : Nat} : ∀ k : Nat, k ≤ z → (∀ d : Nat, z - k ≤ d → d < z → D (gs G r (d : Int)) j j) → sf G D r z k j j := by
  intro k
  induction k with
  | zero => intro _ _; exact rfl
  | succ k ih =>
    intro hk h
    exact ⟨j, h _ (Nat.le_refl _) (by omega), ih (by omega) (fun d d0 d1 => h d (by omega) d1)⟩
theorem nul_iff (hG : okG G) (hT : okT n w) {p : Int} (hp : 0 ≤ p ∧ p ≤ n) : der G n w x p p ↔ (x < 6 ∧ nul G x) := ⟨fun h => h.toNul hG rfl, fun h => h.2.toDer hG p hp.1 hp.2⟩
/-- a maker of the same part in a family -/
theorem kid_same (hG : okG G) (hT : okT n w) (hD : isD G n w T) (hij : 0 ≤ i ∧ i ≤ j ∧ j ≤ n) : kid G T m i j x i j ↔ ∃ r d : Int, (0 ≤ r ∧ r < gn G) ∧ gl G r = m ∧ (0 ≤ d ∧ d < gz G r) ∧ gs G r d = x ∧ x < 6 ∧ der G n w x i j ∧ othN G r d := by
  have le : ∀ x a b : Int, der G n w x a b → a ≤ b := fun x a b h => (h.rng hG hT).2.2.1
  rw [kid_iff hG hT hD]
  constructor
  · rintro ⟨r, d, hr, hl, hd, h5, hx, hp, hdr, hs⟩
    have g := (hG.2 r hr.1 hr.2).2.1
    refine ⟨r, d, hr, hl, by omega, hx.symm, by omega, hdr, fun k k0 k1 hne => ?_⟩
    have ek : ((k.toNat : Nat) : Int) = k := by omega
    by_cases e : k < d
    · have := pth_flat le d hp k.toNat (by omega)
      rw [ek] at this
      exact (nul_iff hG hT ⟨by omega, by omega⟩).mp this
    · have := sf_flat le _ (by omega) hs k.toNat (by omega) (by omega)
      rw [ek] at this
      exact (nul_iff hG hT ⟨by omega, by omega⟩).mp this
  · rintro ⟨r, d, hr, hl, hd, hx, h6, hdr, ho⟩
    have ed : ((d.toNat : Nat) : Int) = d := by omega
    refine ⟨r, d.toNat, hr, hl, by omega, by rw [ed]; omega, by rw [ed]; exact hx.symm, pth_all _ (fun k hk => ?_), hdr, sf_all _ (by omega) (fun k k0 k1 => ?_)⟩
    · exact (nul_iff hG hT ⟨by omega, by omega⟩).mpr (ho k (by omega) (by omega) (by omega))
    · exact (nul_iff hG hT ⟨by omega, by omega⟩).mpr (ho k (by omega) (by omega) (by omega))
theorem g_m48 {Q : Int → ev_M → Prop} (hG : okG G) (hT : okT n w) (hD : isD G n w T) (hC : isC G M) (hc : CHT G n w M) (hij : 0 ≤ i ∧ i ≤ j ∧ j ≤ n) (h : ∀ v : Int, (0 ≤ v ∧ v < 64) → (∀ x : Int, 0 ≤ x → (bt v x.toNat = true ↔ kid G T m i j x i j)) → Q v M) : m48 m i j M Q := by
  have hn := hT.1
  have gc := hG.1
  have e3 := hC.1
  refine b48 ?_
  refine lp (σ := Int) (n := gn G) (c := fun r v => c48_6 m i j v r M Q) (P := fun r v => (0 ≤ v ∧ v < 64) ∧ ∀ x : Int, 0 ≤ x → (bt v x.toNat = true ↔ ∃ r' d : Int, (0 ≤ r' ∧ r' < r) ∧ gl G r' = m ∧ (0 ≤ d ∧ d < gz G r') ∧ gs G r' d = x ∧ x < 6 ∧ der G n w x i j ∧ othN G r' d)) ?_ ?_ (by omega) gc.1 ⟨by omega, fun x x0 => by rw [bt_zero]; exact ⟨fun h => absurd h (by decide), fun ⟨r', d, h1, _⟩ => by omega⟩⟩
  · intro r v r0 r1 hP ih
    have hg := hG.2 r r0 r1
    obtain ⟨el, esz, esy⟩ := hC.2 r r0 r1
    refine b48_6 ⟨fun g => absurd g (by omega), fun _ => ?_⟩
    by_cases hl : gl G r = m
    · refine lp (σ := Int) (n := gz G r) (c := fun d v => c48_21 m i j v r d M Q) (P := fun d v => (0 ≤ v ∧ v < 64) ∧ ∀ x : Int, 0 ≤ x → (bt v x.toNat = true ↔ ((∃ r' d' : Int, (0 ≤ r' ∧ r' < r) ∧ gl G r' = m ∧ (0 ≤ d' ∧ d' < gz G r') ∧ gs G r' d' = x ∧ x < 6 ∧ der G n w x i j ∧ othN G r' d') ∨ ∃ d' : Int, (0 ≤ d' ∧ d' < d) ∧ gs G r d' = x ∧ x < 6 ∧ der G n w x i j ∧ othN G r d'))) ?_ ?_ (by omega) hg.2.1.1 ⟨hP.1, fun x x0 => (hP.2 x x0).trans ⟨Or.inl, fun h => h.elim id (fun ⟨d', h1, _⟩ => by omega)⟩⟩
      · intro d v d0 d1 hP ihd
        have hsy := hg.2.2 d d0 d1
        have skip : ¬ (gs G r d < 6 ∧ der G n w (gs G r d) i j ∧ othN G r d) → c48_104 m i j v r d M Q := by
          intro hno
          refine b48_104 ⟨⟨by omega, by omega⟩, ihd v ⟨hP.1, fun x x0 => (hP.2 x x0).trans ⟨?_, ?_⟩⟩⟩
          · rintro (h1 | ⟨d', h1, h2⟩)
            · exact Or.inl h1
            · exact Or.inr ⟨d', by omega, h2⟩
          · rintro (h1 | ⟨d', h1, h2, h3, h4, h5⟩)
            · exact Or.inl h1
            · by_cases e : d' = d
              · subst e; subst h2
                exact absurd ⟨h3, h4, h5⟩ hno
              · exact Or.inr ⟨d', by omega, h2, h3, h4, h5⟩
        refine b48_21 ⟨⟨r0, by omega⟩, fun g => absurd g (by rw [esz]; omega), fun _ => ⟨⟨r0, by omega⟩, fun hne => absurd (el.trans hl) hne, fun _ => g_m4 ⟨r0, by omega⟩ ⟨d0, by omega⟩ ?_⟩⟩
        rw [esy d d0 d1]
        refine ⟨fun h6 => skip (fun hh => by omega), fun h6 => g_m24 hG hT hc hsy ⟨by omega, by omega⟩ ⟨by omega, by omega⟩ (fun hd => ⟨fun g => absurd g (by decide), fun _ => g_m47 hG hT hC hc ⟨r0, r1⟩ (fun ho => ⟨fun g => absurd g (by decide), fun _ => ⟨⟨by omega, by omega⟩, sl_i2 ⟨by omega, by omega⟩, ⟨by omega, by omega⟩, ?_, b48_104 ⟨⟨by omega, by omega⟩, ihd _ ⟨or_rng (n := 6) hP.1 (by omega), fun x x0 => ?_⟩⟩⟩⟩) (fun ho => ⟨fun _ => skip (fun hh => ho hh.2.2), fun g => absurd rfl g⟩)⟩) (fun hd => ⟨fun _ => skip (fun hh => hd hh.2.1), fun g => absurd rfl g⟩)⟩
        · have := sl_rng (y := gs G r d) (n := 6) (by omega)
          exact ⟨this.1, by omega⟩
        · rw [bt_or, Bool.or_eq_true, decide_eq_true_iff, hP.2 x x0]
          constructor
          · rintro ((h1 | ⟨d', h1, h2⟩) | h1)
            · exact Or.inl h1
            · exact Or.inr ⟨d', by omega, h2⟩
            · have e : x = gs G r d := by omega
              subst e
              exact Or.inr ⟨d, by omega, rfl, by omega, hd, ho⟩
          · rintro (h1 | ⟨d', h1, h2, h3, h4, h5⟩)
            · exact Or.inl (Or.inl h1)
            · by_cases e : d' = d
              · subst e; subst h2
                exact Or.inr rfl
              · exact Or.inl (Or.inr ⟨d', by omega, h2, h3, h4, h5⟩)
      · intro v hP
        refine b48_21 ⟨⟨r0, by omega⟩, fun _ => b48_110 ⟨⟨by omega, by omega⟩, ih v ⟨hP.1, fun x x0 => (hP.2 x x0).trans ⟨?_, ?_⟩⟩⟩, fun g => absurd (by rw [esz]; omega) g⟩
        · rintro (⟨r', d', h1, h2⟩ | ⟨d', h1, h2⟩)
          · exact ⟨r', d', by omega, h2⟩
          · exact ⟨r, d', by omega, hl, h1, h2⟩
        · rintro ⟨r', d', h1, h2, h3, h4⟩
          by_cases e : r' = r
          · subst e; exact Or.inr ⟨d', h3, h4⟩
          · exact Or.inl ⟨r', d', by omega, h2, h3, h4⟩
    · have out : c48_110 m i j v r M Q := by
        refine b48_110 ⟨⟨by omega, by omega⟩, ih v ⟨hP.1, fun x x0 => (hP.2 x x0).trans ⟨?_, ?_⟩⟩⟩
        · rintro ⟨r', d', h1, h2⟩
          exact ⟨r', d', by omega, h2⟩
        · rintro ⟨r', d', h1, h2, h3⟩
          by_cases e : r' = r
          · subst e; exact absurd h2 hl
          · exact ⟨r', d', by omega, h2, h3⟩
      exact b48_21 ⟨⟨r0, by omega⟩, fun _ => out, fun _ => ⟨⟨r0, by omega⟩, fun _ => out, fun heq => absurd (el.symm.trans (Decidable.of_not_not heq)) hl⟩⟩
  · intro v hP
    exact b48_6 ⟨fun _ => h v hP.1 (fun x x0 => (hP.2 x x0).trans (kid_same hG hT hD hij).symm), fun g => absurd (by omega) g⟩
end MW2
