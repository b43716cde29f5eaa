/-! The class's chart -/
theorem lpd {σ : Type} {c P : Int → σ → Prop} (hs : ∀ (r : Int) (s : σ), 0 ≤ r → P r s → (∀ s', P (r + (-1)) s' → c (r + (-1)) s') → c r s) (he : ∀ s, P (-1) s → c (-1) s) {r : Int} {s : σ} (h0 : -1 ≤ r) (h : P r s) : c r s := by
  have key : ∀ (k : Nat) (r : Int) (s : σ), r + 1 ≤ k → -1 ≤ r → P r s → c r s := by
    intro k
    induction k with
    | zero =>
      intro r s hk h0 h
      have e : r = -1 := by omega
      subst e
      exact he s h
    | succ k ih =>
      intro r s hk h0 h
      by_cases e : r = -1
      · subst e
        exact he s h
      · exact hs r s (by omega) h (fun s' h' => ih (r + (-1)) s' (by omega) (by omega) h')
  exact key (r + 1).toNat r s (by omega) h0 h
/-- the class's memory holds the text -/
def isX (n : Int) (w : Int → Int) (M : ev_M) : Prop := sC_size M = n ∧ ∀ p : Int, 0 ≤ p → p < n → aC_text M p.toNat = w p
/-- the class's chart says: x stands for i to j -/
def tb (M : ev_M) (x i j : Int) : Prop := (0 ≤ i ∧ i ≤ 10) ∧ 0 ≤ j ∧ bt (aC_ends M (x * 11 + i).toNat) j.toNat = true
def chR (M : ev_M) : Prop := ∀ k : Nat, k < 110 → 0 ≤ aC_ends M k ∧ aC_ends M k < 2048
def chS (G : gT) (n : Int) (w : Int → Int) (M : ev_M) : Prop := chR M ∧ ∀ x i j : Int, 0 ≤ x → x < 10 → tb M x i j → der G n w x i j
/-- the chart is filled -/
def CHT (G : gT) (n : Int) (w : Int → Int) (M : ev_M) : Prop := chR M ∧ ∀ x i j : Int, 0 ≤ x → x < 10 → (tb M x i j ↔ der G n w x i j)
section CH
variable {G : gT} {n : Int} {w : Int → Int} {M M' : ev_M} {x r p : Int}
theorem isX.of (h : isX n w M) (h1 : M'.1 5 = M.1 5) (h2 : M'.2 11 = M.2 11) : isX n w M' := by
  unfold isX at h ⊢
  simp only [sC_size, aC_text] at h ⊢
  rw [h1, h2]
  exact h
theorem g_m25 {P : Int} {Q : Int → ev_M → Prop} (hT : okT n w) (hX : isX n w M) (hc : chR M) (hx : 0 ≤ x ∧ x < 10) (hP : 0 ≤ P ∧ P < 2048) (h : ∀ v : Int, (0 ≤ v ∧ v < 2048) → (∀ j : Int, 0 ≤ j → (bt v j.toNat = true ↔ ∃ q : Int, 0 ≤ q ∧ q ≤ n ∧ bt P q.toNat = true ∧ tb M x q j)) → Q v M) : m25 x P M Q := by
  have hn := hT.1
  have en := hX.1
  refine b25 ?_
  refine lp (σ := Int) (n := n + 1) (c := fun q v => c25_5 x P v q M Q) (P := fun q v => (0 ≤ v ∧ v < 2048) ∧ ∀ j : Int, 0 ≤ j → (bt v j.toNat = true ↔ ∃ q' : Int, 0 ≤ q' ∧ q' < q ∧ bt P q'.toNat = true ∧ tb M x q' j)) ?_ ?_ (by omega) (by omega) ⟨by omega, fun j _ => ?_⟩
  · intro q v q0 q1 hP2 ih
    have hk := hc (x * 11 + q).toNat (by omega)
    refine b25_5 ⟨fun g => absurd g (by omega), fun _ => ⟨⟨by omega, by omega⟩, ⟨by omega, by omega⟩, ?_, fun g => b25_38 ⟨⟨by omega, by omega⟩, ih v ⟨hP2.1, fun j j0 => ?_⟩⟩, fun g => ⟨⟨by omega, by omega⟩, ⟨by omega, by omega⟩, ⟨by omega, by omega⟩, ⟨by omega, by omega⟩, ⟨by omega, by omega⟩, b25_38 ⟨⟨by omega, by omega⟩, ih _ ⟨or2_rng (n := 11) hP2.1 hk, fun j j0 => ?_⟩⟩⟩⟩⟩
    · have h3 : P.toNat >>> q.toNat ≤ P.toNat := Nat.shiftRight_le _ _
      refine ⟨Int.natCast_nonneg _, ?_⟩
      show ((P.toNat >>> q.toNat : Nat) : Int) < 2147483648
      omega
    · rw [hP2.2 j j0]
      constructor
      · rintro ⟨q', a1, a2, a3⟩
        exact ⟨q', a1, by omega, a3⟩
      · rintro ⟨q', a1, a2, a3, a4⟩
        by_cases e : q' = q
        · subst e
          rw [bt_sr.mp g] at a3
          exact absurd a3 (by decide)
        · exact ⟨q', a1, by omega, a3, a4⟩
    · have hq : bt P q.toNat = true := by
        cases hb : bt P q.toNat with
        | true => rfl
        | false => exact absurd (bt_sr.mpr hb) g
      rw [bt_or2, Bool.or_eq_true, hP2.2 j j0]
      constructor
      · rintro (⟨q', a1, a2, a3⟩ | hb)
        · exact ⟨q', a1, by omega, a3⟩
        · exact ⟨q, q0, by omega, hq, ⟨q0, by omega⟩, j0, hb⟩
      · rintro ⟨q', a1, a2, a3, a4⟩
        by_cases e : q' = q
        · subst e
          exact Or.inr a4.2.2
        · exact Or.inl ⟨q', a1, by omega, a3, a4⟩
  · intro v hP2
    refine b25_5 ⟨fun _ => h v hP2.1 (fun j j0 => (hP2.2 j j0).trans ⟨?_, ?_⟩), fun g => absurd (by omega) g⟩
    · rintro ⟨q', a1, a2, a3⟩
      exact ⟨q', a1, by omega, a3⟩
    · rintro ⟨q', a1, a2, a3⟩
      exact ⟨q', a1, by omega, a3⟩
  · rw [bt_zero]
    refine ⟨fun h => absurd h (by decide), ?_⟩
    rintro ⟨q', a1, a2, -⟩
    omega
theorem sl_i2 {v : Int} (h : 0 ≤ v ∧ v ≤ 30) : (1 : Int) * 2 ^ v.toNat < 2147483648 := by
  have h1 : (2 : Nat) ^ v.toNat ≤ 2 ^ 30 := Nat.pow_le_pow_right (by decide) (by omega)
  have h2 : ((2 : Int) ^ v.toNat) = ((2 ^ v.toNat : Nat) : Int) := by rw [Int.natCast_pow]; rfl
  rw [h2]
  omega
theorem bt_sl {v : Int} {j : Nat} : bt (tm_sl 1 v) j = decide (v.toNat = j) := by
  rw [tm_sl1, bt_pow]
theorem g_m26 {Q : Int → ev_M → Prop} (hG : okG G) (hT : okT n w) (hC : isC G M) (hX : isX n w M) (hc : chS G n w M) (hr : 0 ≤ r ∧ r < gn G) (hp : 0 ≤ p ∧ p ≤ n) (h : ∀ v : Int, (0 ≤ v ∧ v < 2048) → (∀ j : Int, 0 ≤ j → (bt v j.toNat = true ↔ pth G (tb M) r (gz G r).toNat p j)) → Q v M) : m26 r p M Q := by
  have hn := hT.1
  have gc := hG.1
  have hg := hG.2 r hr.1 hr.2
  obtain ⟨-, esz, esy⟩ := hC.2 r hr.1 hr.2
  refine b26 ⟨⟨by omega, by omega⟩, sl_i2 ⟨by omega, by omega⟩, ?_⟩
  refine lp (σ := Int) (n := gz G r) (c := fun d v => c26_7 r v d M Q) (P := fun d v => (0 ≤ v ∧ v < 2048) ∧ ∀ j : Int, 0 ≤ j → (bt v j.toNat = true ↔ pth G (tb M) r d.toNat p j)) ?_ ?_ (by omega) hg.2.1.1 ⟨sl_rng (n := 11) (by omega), fun j j0 => ?_⟩
  · intro d v d0 d1 hP ih
    have hsy := hg.2.2 d d0 d1
    refine b26_7 ⟨⟨by omega, by omega⟩, fun g => absurd g (by rw [esz]; omega), fun _ => g_m4 ⟨by omega, by omega⟩ ⟨by omega, by omega⟩ ?_⟩
    rw [esy d d0 d1]
    refine g_m25 hT hX hc.1 hsy hP.1 (fun v' hv' hb => ⟨⟨by omega, by omega⟩, ih v' ⟨hv', fun j j0 => ?_⟩⟩)
    rw [hb j j0, show (d + 1).toNat = d.toNat + 1 by omega]
    have ed : ((d.toNat : Nat) : Int) = d := by omega
    constructor
    · rintro ⟨q, q0, q1, q2, q3⟩
      exact ⟨q, (hP.2 q q0).mp q2, by rw [ed]; exact q3⟩
    · rintro ⟨m, m1, m2⟩
      rw [ed] at m2
      have m3 := (hc.2 _ _ _ hsy.1 hsy.2 m2).rng hG hT
      exact ⟨m, by omega, by omega, (hP.2 m (by omega)).mpr m1, m2⟩
  · intro v hP
    exact b26_7 ⟨⟨by omega, by omega⟩, fun _ => h v hP.1 hP.2, fun g => absurd (by rw [esz]; omega) g⟩
  · rw [bt_sl, decide_eq_true_iff]
    show _ ↔ p = j
    omega
/-- a chart within a chart -/
def chM (M M' : ev_M) : Prop := ∀ x i j : Int, tb M x i j → tb M' x i j
def msC (p : Int) (M : ev_M) : Nat := cntB (fun k => bt (aC_ends M (k / 11 * 11 + p.toNat)) (k % 11)) 66
theorem msC_mono (hp : 0 ≤ p ∧ p ≤ 10) (h : chM M M') : msC p M ≤ msC p M' := by
  refine cntB_mono (fun k hk hb => ?_)
  have := h ((k / 11 : Nat) : Int) p ((k % 11 : Nat) : Int) ⟨⟨hp.1, hp.2⟩, by omega, by
    rw [show (((k / 11 : Nat) : Int) * 11 + p).toNat = k / 11 * 11 + p.toNat by omega, show (((k % 11 : Nat) : Int)).toNat = k % 11 by omega]
    exact hb⟩
  have := this.2.2
  rw [show (((k / 11 : Nat) : Int) * 11 + p).toNat = k / 11 * 11 + p.toNat by omega, show (((k % 11 : Nat) : Int)).toNat = k % 11 by omega] at this
  exact this
theorem g_m27 {Q : ev_M → Prop} (hG : okG G) (hT : okT n w) (hC : isC G M) (hX : isX n w M) (hc : chS G n w M) (hp : 0 ≤ p ∧ p ≤ n) (h : ∀ M' : ev_M, fr [] [12] M M' → chS G n w M' → chM M M' → (∀ r j : Int, 0 ≤ r → r < gn G → pth G (tb M') r (gz G r).toNat p j → tb M' (gl G r) p j) → Q M') : m27 p M Q := by
  have hn := hT.1
  have gc := hG.1
  have key : ∀ (k : Nat) (t : Int) (M1 : ev_M), 67 - t ≤ k → 0 ≤ t → t ≤ 67 → fr [] [12] M M1 → chS G n w M1 → chM M M1 → t ≤ (msC p M1 : Int) → c27_4 p 1 t M1 Q := by
    intro k
    induction k with
    | zero =>
      intro t M1 hk t0 t1 hf hs hm hms
      have : msC p M1 ≤ 66 := cntB_le
      omega
    | succ k ihk =>
      intro t M1 hk t0 t1 hf hs hm hms
      have h66 : msC p M1 ≤ 66 := cntB_le
      refine b27_4 ⟨fun g => by omega, fun _ => ⟨fun g => absurd g (by decide), fun _ => ?_⟩⟩
      refine lp (σ := Int × ev_M) (n := gn G) (c := fun r s => c27_19 p s.1 t r s.2 Q) (P := fun r s => fr [] [12] M s.2 ∧ chS G n w s.2 ∧ chM M1 s.2 ∧ ((s.1 = 0 ∧ s.2 = M1 ∧ ∀ r' j : Int, 0 ≤ r' → r' < r → pth G (tb M1) r' (gz G r').toNat p j → tb M1 (gl G r') p j) ∨ (s.1 = 1 ∧ msC p M1 < msC p s.2))) ?_ ?_ (r := 0) (s := (0, M1)) (by omega) gc.1 ⟨hf, hs, fun _ _ _ h => h, Or.inl ⟨rfl, rfl, fun r' j a1 a2 => by omega⟩⟩
      · rintro r ⟨g, M2⟩ r0 r1 ⟨hf2, hs2, hm2, hg2⟩ ih
        dsimp only at hf2 hs2 hm2 hg2 ih ⊢
        have hC2 : isC G M2 := hC.of (hf2.1 3 (by decide)) (hf2.2 2 (by decide)) (hf2.2 3 (by decide)) (hf2.2 4 (by decide))
        have hX2 : isX n w M2 := hX.of (hf2.1 5 (by decide)) (hf2.2 11 (by decide))
        have hgr := hG.2 r r0 r1
        have e3 := hC2.1
        have el : aG_left M2 r.toNat = gl G r := (hC2.2 r r0 r1).1
        refine b27_19 ⟨fun g => absurd g (by omega), fun _ => ⟨⟨r0, by omega⟩, ?_⟩⟩
        rw [el]
        have hk := hs2.1 (gl G r * 11 + p).toNat (by omega)
        refine ⟨⟨by omega, by omega⟩, ⟨by omega, by omega⟩, ⟨by omega, by omega⟩, g_m26 hG hT hC2 hX2 hs2 ⟨r0, r1⟩ hp (fun v hv hb => ?_)⟩
        have hor : ∀ j, bt (tm_or (aC_ends M2 (gl G r * 11 + p).toNat) v) j = (bt (aC_ends M2 (gl G r * 11 + p).toNat) j || bt v j) := fun j => bt_or2
        have hrng : 0 ≤ tm_or (aC_ends M2 (gl G r * 11 + p).toNat) v ∧ tm_or (aC_ends M2 (gl G r * 11 + p).toNat) v < 2048 := or2_rng (n := 11) hk hv
        -- the new memory
        have nm : chM M2 (ev_sA M2 12 (gl G r * 11 + p).toNat (tm_or (aC_ends M2 (gl G r * 11 + p).toNat) v)) := by
          rintro x i j ⟨a1, a2, a3⟩
          refine ⟨a1, a2, ?_⟩
          show bt ((ev_sA M2 12 (gl G r * 11 + p).toNat _).2 12 (x * 11 + i).toNat) j.toNat = true
          by_cases e : (x * 11 + i).toNat = (gl G r * 11 + p).toNat
          · rw [e, sA_same, hor, ← e, a3]; rfl
          · rw [sA_ne e]; exact a3
        have nS : chS G n w (ev_sA M2 12 (gl G r * 11 + p).toNat (tm_or (aC_ends M2 (gl G r * 11 + p).toNat) v)) := by
          refine ⟨fun q hq => ?_, fun x i j x0 x1 hb2 => ?_⟩
          · show 0 ≤ (ev_sA M2 12 (gl G r * 11 + p).toNat _).2 12 q ∧ (ev_sA M2 12 (gl G r * 11 + p).toNat _).2 12 q < 2048
            by_cases e : q = (gl G r * 11 + p).toNat
            · rw [e, sA_same]; exact hrng
            · rw [sA_ne e]; exact hs2.1 q hq
          · obtain ⟨a1, a2, a3⟩ := hb2
            have a3' : bt ((ev_sA M2 12 (gl G r * 11 + p).toNat (tm_or (aC_ends M2 (gl G r * 11 + p).toNat) v)).2 12 (x * 11 + i).toNat) j.toNat = true := a3
            by_cases e : (x * 11 + i).toNat = (gl G r * 11 + p).toNat
            · rw [e, sA_same, hor, Bool.or_eq_true] at a3'
              rcases a3' with hb3 | hb3
              · exact hs2.2 x i j x0 x1 ⟨a1, a2, by rw [e]; exact hb3⟩
              · have ex : x = gl G r := by omega
                have ei : i = p := by omega
                subst ex; subst ei
                refine der.rule r0 r1 hp.1 hp.2 (pth_mono (fun d hd a b hab => ?_) ((hb j a2).mp hb3))
                have := hgr.2.2 d (by omega) (by omega)
                exact hs2.2 _ _ _ this.1 this.2 hab
            · rw [sA_ne e] at a3'
              exact hs2.2 x i j x0 x1 ⟨a1, a2, a3'⟩
        have nf : fr [] [12] M (ev_sA M2 12 (gl G r * 11 + p).toNat (tm_or (aC_ends M2 (gl G r * 11 + p).toNat) v)) := hf2.sA (by decide)
        have on : (tm_or (aC_ends M2 (gl G r * 11 + p).toNat) v = aC_ends M2 (gl G r * 11 + p).toNat → g = 1) → c27_81 p t r (gl G r * 11 + p) (tm_or (aC_ends M2 (gl G r * 11 + p).toNat) v) M2 Q := by
          intro hch
          refine b27_81 (b27_86 ⟨⟨by omega, by omega⟩, ⟨by omega, by omega⟩, ih (1, _) ⟨nf, nS, fun x i j hb => nm x i j (hm2 x i j hb), Or.inr ⟨rfl, ?_⟩⟩⟩)
          have m1 := msC_mono (p := p) ⟨hp.1, by omega⟩ hm2
          have m2 := msC_mono (p := p) ⟨hp.1, by omega⟩ nm
          show msC p M1 < msC p (ev_sA M2 12 (gl G r * 11 + p).toNat (tm_or (aC_ends M2 (gl G r * 11 + p).toNat) v))
          by_cases e : tm_or (aC_ends M2 (gl G r * 11 + p).toNat) v = aC_ends M2 (gl G r * 11 + p).toNat
          · rcases hg2 with ⟨g0, -⟩ | ⟨-, hlt⟩
            · have := hch e; omega
            · omega
          · have : ∃ j : Nat, bt (tm_or (aC_ends M2 (gl G r * 11 + p).toNat) v) j = true ∧ bt (aC_ends M2 (gl G r * 11 + p).toNat) j = false := by
              refine Classical.byContradiction (fun hno => e (bt_ext hrng.1 hk.1 (fun j => ?_)))
              cases h1 : bt (aC_ends M2 (gl G r * 11 + p).toNat) j with
              | true => rw [hor, h1]; rfl
              | false =>
                cases h2 : bt (tm_or (aC_ends M2 (gl G r * 11 + p).toNat) v) j with
                | false => rfl
                | true => exact absurd ⟨j, h2, h1⟩ hno
            obtain ⟨j, j1, j2⟩ := this
            have j11 : j < 11 := by
              refine Decidable.byContradiction (fun hj => ?_)
              rw [bt_hi (n := 11) hrng.2 (by omega)] at j1
              exact absurd j1 (by decide)
            have ei : (gl G r).toNat * 11 + p.toNat = (gl G r * 11 + p).toNat := by omega
            have ed : ((gl G r).toNat * 11 + j) / 11 = (gl G r).toNat := by omega
            have er : ((gl G r).toNat * 11 + j) % 11 = j := by omega
            have := cntB_lt (n := 66) (f := fun k => bt (aC_ends M2 (k / 11 * 11 + p.toNat)) (k % 11)) (g := fun k => bt ((ev_sA M2 12 (gl G r * 11 + p).toNat (tm_or (aC_ends M2 (gl G r * 11 + p).toNat) v)).2 12 (k / 11 * 11 + p.toNat)) (k % 11)) (k := (gl G r).toNat * 11 + j) (fun q hq hb => ?_) (by omega) (by rw [ed, er, ei]; exact j2) (by rw [ed, er, ei, sA_same]; exact j1)
            · have h3 : msC p M2 < msC p (ev_sA M2 12 (gl G r * 11 + p).toNat (tm_or (aC_ends M2 (gl G r * 11 + p).toNat) v)) := this
              omega
            · by_cases e2 : q / 11 * 11 + p.toNat = (gl G r * 11 + p).toNat
              · rw [e2] at hb ⊢
                rw [sA_same, hor, hb]; rfl
              · rw [sA_ne e2]; exact hb
        refine ⟨hk |>.imp id (fun h => by omega), ⟨hv.1, by omega⟩, fun gne => on (fun _ => ?_), fun g0 => ⟨⟨by omega, by omega⟩, fun heq => b27_86 ⟨⟨by omega, by omega⟩, ⟨by omega, by omega⟩, ?_⟩, fun hne => on (fun h => absurd h hne)⟩⟩
        · rcases hg2 with ⟨g0, -⟩ | ⟨g1, -⟩
          · exact absurd g0 gne
          · exact g1
        · have g0' : g = 0 := Decidable.of_not_not g0
          rcases hg2 with ⟨-, eM, hcl⟩ | ⟨g1, -⟩
          · rw [heq, sA_id]
            refine ih (0, M2) ⟨hf2, hs2, hm2, Or.inl ⟨rfl, eM, fun r' j a1 a2 hpt => ?_⟩⟩
            by_cases e : r' = r
            · subst e
              have j0 : 0 ≤ j := by
                have := pth_le (fun x a b (hd : der G n w x a b) => ((hd.rng hG hT).2.2.1)) (pth_mono (D' := der G n w) (fun d hd a b hab => by
                  have := hgr.2.2 d (by omega) (by omega)
                  exact hs.2 _ _ _ this.1 this.2 hab) hpt)
                omega
              subst eM
              refine ⟨⟨hp.1, by omega⟩, j0, ?_⟩
              rw [← heq, hor, (hb j j0).mpr hpt, Bool.or_true]
            · exact hcl r' j a1 (by omega) hpt
          · omega
      · rintro ⟨g, M2⟩ ⟨hf2, hs2, hm2, hg2⟩
        dsimp only at hf2 hs2 hm2 hg2 ⊢
        have e3 : sG_count M2 = gn G := (hf2.1 3 (by decide)).trans hC.1
        refine b27_19 ⟨fun _ => ⟨⟨by omega, by omega⟩, ?_⟩, fun g => absurd (by omega) g⟩
        rcases hg2 with ⟨g0, eM, hcl⟩ | ⟨g1, hlt⟩
        · subst g0; subst eM
          have fin : Q M2 := h M2 hf2 hs2 hm (fun r j r0 r1 => hcl r j r0 r1)
          exact b27_4 ⟨fun _ => b27_108 fin, fun _ => ⟨fun _ => b27_108 fin, fun g => absurd rfl g⟩⟩
        · subst g1
          exact ihk (t + 1) M2 (by omega) (by omega) (by omega) hf2 hs2 (fun x i j hb => hm2 x i j (hm x i j hb)) (by omega)
  exact b27 (key 67 0 M (by omega) (by omega) (by omega) fr.refl hc (fun _ _ _ h => h) (by omega))
end CH
