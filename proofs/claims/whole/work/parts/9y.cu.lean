/-! The class's nodes in use -/
def ub (M : ev_M) (m i j : Int) : Prop := (0 ≤ m ∧ m < 6) ∧ (0 ≤ i ∧ i ≤ 10) ∧ (0 ≤ j ∧ j ≤ 10) ∧ bt (aU_ends M (m * 11 + i).toNat) j.toNat = true
def ubc (M : ev_M) : Nat := cntB (fun k => bt (aU_ends M (k / 11)) (k % 11)) 726
def ubR (M : ev_M) : Prop := ∀ k : Nat, k < 66 → 0 ≤ aU_ends M k ∧ aU_ends M k < 2048
/-- the row of nodes taken and its queue -/
def QU (G : gT) (n : Int) (T : Int → Int → Int → Bool) (M : ev_M) : Prop := ubR M ∧ sU_count M = (ubc M : Int) ∧ (∀ m i j : Int, ub M m i j → usd G n T m i j) ∧ (∀ q : Int, 0 ≤ q → q < sU_count M → ∃ m i j : Int, ub M m i j ∧ aU_queue M q.toNat = 121 * m + 11 * i + j) ∧ ∀ m i j : Int, ub M m i j → ∃ q : Int, 0 ≤ q ∧ q < sU_count M ∧ aU_queue M q.toNat = 121 * m + 11 * i + j
abbrev quA : List Nat := [16, 17]
def QS (G : gT) (n : Int) (T : Int → Int → Int → Bool) (M M' : ev_M) : Prop := fr [6] quA M M' ∧ QU G n T M' ∧ (∀ m i j : Int, ub M m i j → ub M' m i j) ∧ sU_count M ≤ sU_count M' ∧ ∀ q : Int, 0 ≤ q → q < sU_count M → aU_queue M' q.toNat = aU_queue M q.toNat
/-- the class's nodes in use are found -/
def UU (G : gT) (n : Int) (T : Int → Int → Int → Bool) (M : ev_M) : Prop := ubR M ∧ ∀ m i j : Int, ub M m i j ↔ usd G n T m i j
section CU
variable {G : gT} {n : Int} {w : Int → Int} {T : Int → Int → Int → Bool} {m i j x : Int} {M M' M2 : ev_M}
theorem QS.refl (h : QU G n T M) : QS G n T M M := ⟨fr.refl, h, fun _ _ _ h => h, Int.le_refl _, fun _ _ _ => rfl⟩
theorem QS.trans (h1 : QS G n T M M') (h2 : QS G n T M' M2) : QS G n T M M2 := ⟨h1.1.trans h2.1, h2.2.1, fun m i j h => h2.2.2.1 m i j (h1.2.2.1 m i j h), Int.le_trans h1.2.2.2.1 h2.2.2.2.1, fun q q0 q1 => (h2.2.2.2.2 q q0 (by have := h1.2.2.2.1; omega)).trans (h1.2.2.2.2 q q0 q1)⟩
theorem cnt396 : cntB (fun k => decide (k / 11 % 11 ≤ k % 11)) 726 = 396 := by decide +kernel
theorem bt_an2 {a b : Int} {q : Nat} : bt (tm_an a b) q = (bt a q && bt b q) := by
  show (a.toNat &&& b.toNat).testBit q = _
  rw [Nat.testBit_and]
  rfl
theorem an2_rng {a b : Int} (ha : 0 ≤ a ∧ a < 2048) : 0 ≤ tm_an a b ∧ tm_an a b < 2048 := by
  refine ⟨Int.natCast_nonneg _, ?_⟩
  show ((a.toNat &&& b.toNat : Nat) : Int) < _
  have : a.toNat &&& b.toNat ≤ a.toNat := Nat.and_le_left
  omega
theorem g_m35 {Q : ev_M → Prop} (hG : okG G) (hT : okT n w) (hD : isD G n w T) (hQ : QU G n T M) (hu : usd G n T m i j) (h : ∀ M' : ev_M, QS G n T M M' → ub M' m i j → Q M') : m35 m i j M Q := by
  have hn := hT.1
  have hr := hu.rng hG hT hD
  obtain ⟨q1, q2, q3, q4, q5⟩ := hQ
  have hk := q1 (m * 11 + i).toNat (by omega)
  have hlt : ¬ ub M m i j → sU_count M < 396 := by
    intro hnb
    rw [q2]
    have : ubc M < 396 := by
      rw [← cnt396]
      refine cntB_lt (k := (121 * m + 11 * i + j).toNat) (fun k hk hb => decide_eq_true ?_) (by omega) ?_ (decide_eq_true (by omega))
      · have := (q3 ((k / 121 : Nat) : Int) ((k / 11 % 11 : Nat) : Int) ((k % 11 : Nat) : Int) ⟨by omega, by omega, by omega, by
          rw [show (((k / 121 : Nat) : Int) * 11 + ((k / 11 % 11 : Nat) : Int)).toNat = k / 11 by omega, show (((k % 11 : Nat) : Int)).toNat = k % 11 by omega]; exact hb⟩).rng hG hT hD
        omega
      · refine Bool.eq_false_iff.mpr (fun hb => hnb ⟨by omega, by omega, by omega, ?_⟩)
        rw [show (121 * m + 11 * i + j).toNat / 11 = (m * 11 + i).toNat by omega, show (121 * m + 11 * i + j).toNat % 11 = j.toNat by omega] at hb
        exact hb
    omega
  have c0 : 0 ≤ sU_count M := by omega
  refine b35 ⟨⟨by omega, by omega⟩, ⟨by omega, by omega⟩, ⟨by omega, by omega⟩, ⟨hk.1, by omega⟩, ⟨by omega, by omega⟩, sr_i hk, fun g => b35_71 (h M (QS.refl ⟨q1, q2, q3, q4, q5⟩) ⟨by omega, by omega, by omega, ?_⟩), fun g => ?_⟩
  · cases hc : bt (aU_ends M (m * 11 + i).toNat) j.toNat with
    | true => rfl
    | false => exact absurd (bt_sr.mpr hc) g
  · have hb0 : bt (aU_ends M (m * 11 + i).toNat) j.toNat = false := bt_sr.mp (Decidable.of_not_not g)
    have hnb : ¬ ub M m i j := fun h => by rw [h.2.2.2] at hb0; exact absurd hb0 (by decide)
    have hl := hlt hnb
    refine ⟨fun g => absurd g (by omega), fun _ => ⟨⟨by omega, by omega⟩, ⟨by omega, by omega⟩, sl_i2 ⟨by omega, by omega⟩, ⟨hk.1, by omega⟩, ?_, ⟨by omega, by omega⟩, ⟨by omega, by omega⟩, ⟨by omega, by omega⟩, ⟨by omega, by omega⟩, ⟨by omega, by omega⟩, b35_71 ?_⟩⟩
    · have := sl_rng (y := j) (n := 11) (by omega)
      exact ⟨this.1, by omega⟩
    · have hor : ∀ q, bt (tm_or (aU_ends M (m * 11 + i).toNat) (tm_sl 1 j)) q = (bt (aU_ends M (m * 11 + i).toNat) q || decide (j.toNat = q)) := fun q => bt_or
      -- the new memory
      obtain ⟨N, hN⟩ : ∃ N : ev_M, N = ev_sS (ev_sA (ev_sA M 16 (m * 11 + i).toNat (tm_or (aU_ends M (m * 11 + i).toNat) (tm_sl 1 j))) 17 (sU_count M).toNat ((m * 11 + i) * 11 + j)) 6 (sU_count M + 1) := ⟨_, rfl⟩
      rw [← hN]
      have e6 : sU_count N = sU_count M + 1 := by rw [hN]; rfl
      have e16 : ∀ q : Nat, aU_ends N q = (if q = (m * 11 + i).toNat then tm_or (aU_ends M (m * 11 + i).toNat) (tm_sl 1 j) else aU_ends M q) := by
        intro q
        rw [hN]
        show (ev_sA M 16 (m * 11 + i).toNat _).2 16 q = _
        by_cases e : q = (m * 11 + i).toNat
        · rw [if_pos e, e, sA_same]
        · rw [if_neg e, sA_ne e]
      have e17 : ∀ q : Nat, aU_queue N q = (if q = (sU_count M).toNat then (m * 11 + i) * 11 + j else aU_queue M q) := by
        intro q
        rw [hN]
        show (ev_sA (ev_sA M 16 _ _) 17 (sU_count M).toNat _).2 17 q = _
        by_cases e : q = (sU_count M).toNat
        · rw [if_pos e, e, sA_same]
        · rw [if_neg e, sA_ne e]; rfl
      have hubN : ∀ m' i' j' : Int, ub N m' i' j' ↔ (ub M m' i' j' ∨ (m' = m ∧ i' = i ∧ j' = j)) := by
        intro m' i' j'
        unfold ub
        rw [e16]
        constructor
        · rintro ⟨b1, b2, b3, b4⟩
          by_cases e : (m' * 11 + i').toNat = (m * 11 + i).toNat
          · rw [if_pos e, hor, Bool.or_eq_true, decide_eq_true_iff] at b4
            rcases b4 with b4 | b4
            · exact Or.inl ⟨b1, b2, b3, by rw [e]; exact b4⟩
            · exact Or.inr ⟨by omega, by omega, by omega⟩
          · rw [if_neg e] at b4
            exact Or.inl ⟨b1, b2, b3, b4⟩
        · rintro (⟨b1, b2, b3, b4⟩ | ⟨rfl, rfl, rfl⟩)
          · refine ⟨b1, b2, b3, ?_⟩
            by_cases e : (m' * 11 + i').toNat = (m * 11 + i).toNat
            · rw [if_pos e, hor, ← e, b4]; rfl
            · rw [if_neg e]; exact b4
          · refine ⟨by omega, by omega, by omega, ?_⟩
            rw [if_pos rfl, hor, decide_eq_true rfl, Bool.or_true]
      have hcnt : ubc N = ubc M + 1 := by
        have key : ∀ N0 : Nat, N0 ≤ 726 → cntB (fun k => bt (aU_ends N (k / 11)) (k % 11)) N0 = cntB (fun k => bt (aU_ends M (k / 11)) (k % 11)) N0 + (if (121 * m + 11 * i + j).toNat < N0 then 1 else 0) := by
          intro N0
          induction N0 with
          | zero => intro _; rfl
          | succ N0 ih =>
            intro hN0
            show cntB (fun k => bt (aU_ends N (k / 11)) (k % 11)) N0 + (bt (aU_ends N (N0 / 11)) (N0 % 11)).toNat = cntB (fun k => bt (aU_ends M (k / 11)) (k % 11)) N0 + (bt (aU_ends M (N0 / 11)) (N0 % 11)).toNat + _
            rw [ih (by omega), e16]
            by_cases e : N0 = (121 * m + 11 * i + j).toNat
            · have e1 : N0 / 11 = (m * 11 + i).toNat := by omega
              have e2 : N0 % 11 = j.toNat := by omega
              rw [e1, e2, if_pos rfl, hor, hb0, decide_eq_true rfl, if_neg (by omega), if_pos (by omega)]
              rfl
            · have e3 : (bt (if N0 / 11 = (m * 11 + i).toNat then tm_or (aU_ends M (m * 11 + i).toNat) (tm_sl 1 j) else aU_ends M (N0 / 11)) (N0 % 11)) = bt (aU_ends M (N0 / 11)) (N0 % 11) := by
                by_cases e4 : N0 / 11 = (m * 11 + i).toNat
                · rw [if_pos e4, hor, decide_eq_false (by omega), Bool.or_false, e4]
                · rw [if_neg e4]
              rw [e3]
              by_cases e5 : (121 * m + 11 * i + j).toNat < N0
              · rw [if_pos e5, if_pos (by omega)]; omega
              · rw [if_neg e5, if_neg (by omega)]; omega
        have := key 726 (Nat.le_refl _)
        rw [if_pos (by omega)] at this
        exact this
      refine h N ⟨?_, ⟨fun k hk2 => ?_, ?_, fun m' i' j' hb => ?_, fun q q0 q1' => ?_, fun m' i' j' hb => ?_⟩, fun m' i' j' hb => (hubN _ _ _).mpr (Or.inl hb), by omega, fun q q0 q1' => ?_⟩ ((hubN _ _ _).mpr (Or.inr ⟨rfl, rfl, rfl⟩))
      · rw [hN]
        exact ((fr.refl.sA (by decide)).sA (by decide)).sS (by decide)
      · rw [e16]
        by_cases e : k = (m * 11 + i).toNat
        · rw [if_pos e]; exact or_rng (n := 11) hk (by omega)
        · rw [if_neg e]; exact q1 k hk2
      · rw [e6, hcnt, q2]; omega
      · rcases (hubN _ _ _).mp hb with h1 | ⟨rfl, rfl, rfl⟩
        · exact q3 _ _ _ h1
        · exact hu
      · rw [e6] at q1'
        rw [e17]
        by_cases e : q.toNat = (sU_count M).toNat
        · rw [if_pos e]
          exact ⟨m, i, j, (hubN _ _ _).mpr (Or.inr ⟨rfl, rfl, rfl⟩), by omega⟩
        · rw [if_neg e]
          obtain ⟨m', i', j', b1, b2⟩ := q4 q q0 (by omega)
          exact ⟨m', i', j', (hubN _ _ _).mpr (Or.inl b1), b2⟩
      · rcases (hubN _ _ _).mp hb with h1 | ⟨rfl, rfl, rfl⟩
        · obtain ⟨q, b0, b1, b2⟩ := q5 _ _ _ h1
          refine ⟨q, b0, by omega, ?_⟩
          rw [e17, if_neg (by omega)]; exact b2
        · refine ⟨sU_count M, c0, by omega, ?_⟩
          rw [e17, if_pos rfl]; omega
      · rw [e17, if_neg (by omega)]
theorem CHT.fr {S A : List Nat} (h : CHT G n w M) (hf : fr S A M M') (hA : 12 ∉ A) : CHT G n w M' := h.of (hf.2 12 hA)
theorem g_m39 {Q : Int → ev_M → Prop} {B W : Int} (hG : okG G) (hT : okT n w) (hD : isD G n w T) (hX : isX n w M) (hc : CHT G n w M) (hQ : QU G n T M) (hx : 0 ≤ x ∧ x < 10) (hB : 0 ≤ B ∧ B < 2048) (hW : 0 ≤ W ∧ W < 2048) (hu : x < 6 → ∀ b e : Int, 0 ≤ b → 0 ≤ e → bt B b.toNat = true → bt W e.toNat = true → der G n w x b e → usd G n T x b e)
    (h : ∀ (v : Int) (M' : ev_M), QS G n T M M' → (0 ≤ v ∧ v < 2048) → (∀ b : Int, 0 ≤ b → (bt v b.toNat = true ↔ (b ≤ n ∧ bt B b.toNat = true ∧ ∃ e : Int, 0 ≤ e ∧ bt W e.toNat = true ∧ der G n w x b e))) → (x < 6 → ∀ b e : Int, 0 ≤ b → 0 ≤ e → bt B b.toNat = true → bt W e.toNat = true → der G n w x b e → ub M' x b e) → Q v M') : m39 x B W M Q := by
  have hn := hT.1
  refine b39 ?_
  refine lp (σ := Int × ev_M) (n := n + 1) (c := fun b s => c39_6 x B W s.1 b s.2 Q) (P := fun b s => QS G n T M s.2 ∧ (0 ≤ s.1 ∧ s.1 < 2048) ∧ (∀ b' : Int, 0 ≤ b' → (bt s.1 b'.toNat = true ↔ (b' < b ∧ bt B b'.toNat = true ∧ ∃ e : Int, 0 ≤ e ∧ bt W e.toNat = true ∧ der G n w x b' e))) ∧ (x < 6 → ∀ b' e : Int, 0 ≤ b' → b' < b → 0 ≤ e → bt B b'.toNat = true → bt W e.toNat = true → der G n w x b' e → ub s.2 x b' e)) ?_ ?_ (r := 0) (s := (0, M)) (by omega) (by omega) ⟨QS.refl hQ, by omega, fun b' b0 => by rw [bt_zero]; exact ⟨fun h => absurd h (by decide), fun h => by omega⟩, fun _ b' e b0 b1 => by omega⟩
  · rintro b ⟨v, M2⟩ b0 b1 ⟨hs, hv, hvb, hub⟩ ih
    dsimp only at hs hv hvb hub ih ⊢
    have e5 : sC_size M2 = n := (hs.1.1 5 (by decide)).trans hX.1
    have hc2 : CHT G n w M2 := hc.fr hs.1 (by decide)
    have hk := hc2.1 (x * 11 + b).toNat (by omega)
    -- the row of ends, once hits is known
    have go : ∀ H : Int, (0 ≤ H ∧ H < 2048) → (∀ e : Int, 0 ≤ e → (bt H e.toNat = true ↔ (bt B b.toNat = true ∧ bt W e.toNat = true ∧ der G n w x b e))) → c39_43 x B W v b H M2 Q := by
      intro H hH hHb
      have hne : H ≠ 0 ↔ ∃ e : Int, 0 ≤ e ∧ bt H e.toNat = true := by
        constructor
        · intro hne
          refine Classical.byContradiction (fun hno => hne (bt_ext hH.1 (by omega) (fun q => ?_)))
          rw [bt_zero]
          exact Bool.eq_false_iff.mpr (fun hb => hno ⟨(q : Int), by omega, by rw [show ((q : Int)).toNat = q by omega]; exact hb⟩)
        · rintro ⟨e, -, he⟩ h0
          rw [h0, bt_zero] at he
          exact absurd he (by decide)
      have inner : ∀ v' : Int, (0 ≤ v' ∧ v' < 2048) → (∀ b' : Int, 0 ≤ b' → (bt v' b'.toNat = true ↔ (b' < b + 1 ∧ bt B b'.toNat = true ∧ ∃ e : Int, 0 ≤ e ∧ bt W e.toNat = true ∧ der G n w x b' e))) → c39_67 x B W v' b H b M2 Q := by
        intro v' hv' hvb'
        have out : ∀ M3 : ev_M, QS G n T M2 M3 → (x < 6 → ∀ e : Int, 0 ≤ e → bt B b.toNat = true → bt W e.toNat = true → der G n w x b e → ub M3 x b e) → c39_115 x B W v' b M3 Q := by
          intro M3 hs3 hub3
          refine b39_115 ⟨⟨by omega, by omega⟩, ih (v', M3) ⟨hs.trans hs3, hv', hvb', fun hx6 b' e b0' b1' e0 h1 h2 h3 => ?_⟩⟩
          by_cases e2 : b' = b
          · subst e2; exact hub3 hx6 e e0 h1 h2 h3
          · exact hs3.2.2.1 _ _ _ (hub hx6 b' e b0' (by omega) e0 h1 h2 h3)
        refine lp (σ := ev_M) (n := n + 1) (c := fun e M3 => c39_67 x B W v' b H e M3 Q) (P := fun e M3 => b ≤ e ∧ QS G n T M2 M3 ∧ (x < 6 → ∀ e' : Int, 0 ≤ e' → e' < e → bt B b.toNat = true → bt W e'.toNat = true → der G n w x b e' → ub M3 x b e')) ?_ ?_ b0 (by omega) ⟨Int.le_refl _, QS.refl hs.2.1, fun _ e' e0 e1 _ _ hd => ?_⟩
        · rintro e M3 e0 e1 ⟨hbe, hs3, hub3⟩ ihe
          have e5' : sC_size M3 = n := (hs3.1.1 5 (by decide)).trans e5
          refine b39_67 ⟨fun g => absurd g (by omega), fun _ => ⟨fun h0 => out M3 hs3 (fun _ e' e0' a1 a2 a3 => ?_), fun hH0 => ⟨fun h6 => out M3 hs3 (fun hx6 => by omega), fun h6 => ⟨⟨hH.1, by omega⟩, ⟨by omega, by omega⟩, sr_i hH, fun g => b39_109 ⟨⟨by omega, by omega⟩, ihe M3 ⟨by omega, hs3, fun hx6 e' e0' e1' a1 a2 a3 => ?_⟩⟩, fun g => ?_⟩⟩⟩⟩
          · rw [h0] at hHb
            have := (hHb e' e0').mpr ⟨a1, a2, a3⟩
            rw [bt_zero] at this
            exact absurd this (by decide)
          · by_cases e2 : e' = e
            · subst e2
              have := (hHb e' e0').mpr ⟨a1, a2, a3⟩
              rw [bt_sr.mp g] at this
              exact absurd this (by decide)
            · exact hub3 hx6 e' e0' (by omega) a1 a2 a3
          · have hHe : bt H e.toNat = true := by
              cases hb : bt H e.toNat with
              | true => rfl
              | false => exact absurd (bt_sr.mpr hb) g
            obtain ⟨a1, a2, a3⟩ := (hHb e (by omega)).mp hHe
            refine g_m35 hG hT hD hs3.2.1 (hu (by omega) b e b0 (by omega) a1 a2 a3) (fun M4 hs4 hub4 => b39_109 ⟨⟨by omega, by omega⟩, ihe M4 ⟨by omega, hs3.trans hs4, fun hx6 e' e0' e1' c1 c2 c3 => ?_⟩⟩)
            by_cases e2 : e' = e
            · subst e2; exact hub4
            · exact hs4.2.2.1 _ _ _ (hub3 hx6 e' e0' (by omega) c1 c2 c3)
        · rintro M3 ⟨hbe, hs3, hub3⟩
          have e5' : sC_size M3 = n := (hs3.1.1 5 (by decide)).trans e5
          refine b39_67 ⟨fun _ => out M3 hs3 (fun hx6 e e0 a1 a2 a3 => hub3 hx6 e e0 ?_ a1 a2 a3), fun g => absurd (by omega) g⟩
          have := a3.rng hG hT
          omega
        · have := hd.rng hG hT
          omega
      refine b39_43 ⟨fun hH0 => ⟨⟨by omega, by omega⟩, sl_i2 ⟨by omega, by omega⟩, b39_60 ⟨⟨hv.1, by omega⟩, ?_, inner _ (or_rng (n := 11) hv (by omega)) (fun b' b0' => ?_)⟩⟩, fun hH0 => b39_60 ⟨⟨hv.1, by omega⟩, ⟨by omega, by omega⟩, inner _ (or2_rng (n := 11) hv ⟨by omega, by decide⟩) (fun b' b0' => ?_)⟩⟩
      · have := sl_rng (y := b) (n := 11) (by omega)
        exact ⟨this.1, by omega⟩
      · rw [bt_or, Bool.or_eq_true, decide_eq_true_iff, hvb b' b0']
        constructor
        · rintro (⟨a1, a2⟩ | h1)
          · exact ⟨by omega, a2⟩
          · have e2 : b' = b := by omega
            obtain ⟨e, e0, e1⟩ := hne.mp hH0
            obtain ⟨c1, c2, c3⟩ := (hHb e e0).mp e1
            subst e2
            exact ⟨by omega, c1, e, e0, c2, c3⟩
        · rintro ⟨a1, a2, a3⟩
          by_cases e2 : b' = b
          · exact Or.inr (by omega)
          · exact Or.inl ⟨by omega, a2, a3⟩
      · have h0 : H = 0 := Decidable.of_not_not hH0
        rw [bt_or2, bt_zero, Bool.or_false, hvb b' b0']
        constructor
        · rintro ⟨a1, a2⟩
          exact ⟨by omega, a2⟩
        · rintro ⟨a1, a2, e, e0, e1, e2⟩
          by_cases e3 : b' = b
          · subst e3
            have := (hHb e e0).mpr ⟨a2, e1, e2⟩
            rw [h0, bt_zero] at this
            exact absurd this (by decide)
          · exact ⟨by omega, a2, e, e0, e1, e2⟩
    refine b39_6 ⟨fun g => absurd g (by omega), fun _ => ⟨⟨hB.1, by omega⟩, ⟨by omega, by omega⟩, sr_i hB, fun g => g_m23 hx ⟨b0, by omega⟩ ⟨⟨hk.1, by omega⟩, ⟨hW.1, by omega⟩, go _ (an2_rng hk) (fun e e0 => ?_)⟩, fun g => go 0 ⟨by omega, by omega⟩ (fun e e0 => ?_)⟩⟩
    · have hBb : bt B b.toNat = true := by
        cases hb : bt B b.toNat with
        | true => rfl
        | false => exact absurd (bt_sr.mpr hb) g
      rw [bt_an2, Bool.and_eq_true, CHT.at hG hT hc2 hx ⟨b0, by omega⟩ e0]
      exact ⟨fun h => ⟨hBb, h.2, h.1⟩, fun h => ⟨h.2.2, h.2.1⟩⟩
    · rw [bt_zero]
      refine ⟨fun h => absurd h (by decide), fun h => ?_⟩
      rw [bt_sr.mp (Decidable.of_not_not g)] at h
      exact absurd h.1 (by decide)
  · rintro ⟨v, M2⟩ ⟨hs, hv, hvb, hub⟩
    dsimp only at hs hv hvb hub ⊢
    have e5 : sC_size M2 = n := (hs.1.1 5 (by decide)).trans hX.1
    refine b39_6 ⟨fun _ => h v M2 hs hv (fun b b0 => (hvb b b0).trans ⟨fun h => ⟨by omega, h.2⟩, fun h => ⟨by omega, h.2⟩⟩) (fun hx6 b e b0 e0 a1 a2 a3 => hub hx6 b e b0 ?_ e0 a1 a2 a3), fun g => absurd (by omega) g⟩
    have := a3.rng hG hT
    omega
end CU
