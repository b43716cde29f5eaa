/-! The class's forest: weighing a rule -/
/-- the class's counts as weights -/
def vC (M : ev_M) (x p e : Int) : Nat := if (0 ≤ x ∧ x < 10) ∧ (0 ≤ p ∧ p ≤ 10) ∧ (0 ≤ e ∧ e ≤ 10) then (aT_count M ((x * 11 + p) * 11 + e).toNat).toNat else 0
def fC' (M : ev_M) (x p e : Int) : Int := aT_firstLength M ((x * 11 + p) * 11 + e).toNat
def tR' (M : ev_M) : Prop := ∀ k : Nat, k < 1210 → 0 ≤ aT_count M k ∧ aT_count M k ≤ 1000000000
/-- the length of the first row of trees for the last k symbols -/
def sfR (G : gT) (v : Int → Int → Int → Nat) (fl : Int → Int → Int → Int) (r t : Int) (z : Nat) : Nat → Int → Int → Prop
  | 0, _, L => L = 0
  | k + 1, p, L => ∃ e L' : Int, v (gs G r ((z - (k + 1) : Nat) : Int)) p e * rw' G v r t z k e ≠ 0 ∧ (0 ≤ e ∧ e ≤ 10) ∧ (∀ e' : Int, 0 ≤ e' → e' < e → v (gs G r ((z - (k + 1) : Nat) : Int)) p e' * rw' G v r t z k e' = 0) ∧ sfR G v fl r t z k e L' ∧ L = fl (gs G r ((z - (k + 1) : Nat) : Int)) p e + L'
section WR
variable {G : gT} {n : Int} {w : Int → Int} {T : Int → Int → Int → Bool} {v : Int → Int → Int → Nat} {fl : Int → Int → Int → Int} {m f t r : Int} {M M' : ev_M}
theorem rw_hi (hv : ∀ x p e : Int, v x p e ≠ 0 → p ≤ e) {z : Nat} : ∀ (k : Nat) (p : Int), t < p → rw' G v r t z k p = 0 := by
  intro k
  induction k with
  | zero => intro p hp; exact if_neg (by omega)
  | succ k ih =>
    intro p hp
    refine sumN_zero (fun e he => ?_)
    by_cases h : p ≤ (e : Int)
    · rw [ih e (by omega), Nat.mul_zero]
    · rw [Decidable.byContradiction (fun hne => h (hv _ _ _ hne)) (p := v (gs G r ((z - (k + 1) : Nat) : Int)) p (e : Int) = 0), Nat.zero_mul]
theorem sfR_le {z : Nat} {B : Int} (hfl : ∀ x p e : Int, v x p e ≠ 0 → 0 ≤ fl x p e ∧ fl x p e ≤ B) : ∀ (k : Nat) (p L : Int), sfR G v fl r t z k p L → 0 ≤ L ∧ L ≤ B * k := by
  intro k
  induction k with
  | zero => intro p L h; have h : L = 0 := h; subst h; omega
  | succ k ih =>
    rintro p L ⟨e, L', h1, -, -, h2, rfl⟩
    have h3 := ih e L' h2
    have h4 := hfl _ _ _ (fun h0 => h1 (by rw [h0, Nat.zero_mul]))
    have e1 : B * ((k + 1 : Nat) : Int) = B * (k : Int) + B := by
      rw [Int.natCast_add, Int.mul_add]; omega
    omega
theorem cap_add {a b x : Nat} (h : b = min x 1000000000) : ∀ c : Nat, min (min a 1000000000 + c * b) 1000000000 = min (a + c * x) 1000000000 := by
  intro c
  subst h
  by_cases hx : x ≤ 1000000000
  · rw [Nat.min_eq_left hx]; omega
  · rw [Nat.min_eq_right (show 1000000000 ≤ x by omega)]
    cases c with
    | zero => rw [Nat.zero_mul, Nat.zero_mul]; omega
    | succ c =>
      have h1 : (c + 1) * 1000000000 ≤ (c + 1) * x := Nat.mul_le_mul_left _ (by omega)
      have h2 : 1 * 1000000000 ≤ (c + 1) * 1000000000 := Nat.mul_le_mul_right _ (by omega)
      omega
theorem g_m49 {x : Nat} {Q : Int → ev_M → Prop} (h : Q ((min x 1000000000 : Nat) : Int) M) : m49 (x : Int) M Q := by
  refine b49 ⟨fun g => b49_15 ?_, fun g => b49_15 ?_⟩
  · rw [Nat.min_eq_right (by omega)] at h; exact h
  · rw [Nat.min_eq_left (by omega)] at h; exact h
theorem g_m46 {x p e : Int} {Q : Int → ev_M → Prop} (hx : 0 ≤ x ∧ x < 10) (hp : 0 ≤ p ∧ p ≤ 10) (he : 0 ≤ e ∧ e ≤ 10) (h : Q ((x * 11 + p) * 11 + e) M) : m46 x p e M Q := b46 ⟨⟨by omega, by omega⟩, ⟨by omega, by omega⟩, ⟨by omega, by omega⟩, ⟨by omega, by omega⟩, h⟩
theorem vC_at (hR : tR' M) {x p e : Int} (hx : 0 ≤ x ∧ x < 10) (hp : 0 ≤ p ∧ p ≤ 10) (he : 0 ≤ e ∧ e ≤ 10) : aT_count M ((x * 11 + p) * 11 + e).toNat = ((vC M x p e : Nat) : Int) := by
  unfold vC
  rw [if_pos ⟨hx, hp, he⟩]
  have := hR ((x * 11 + p) * 11 + e).toNat (by omega)
  omega
/-- what weighRule leaves -/
def wRest (G : gT) (v : Int → Int → Int → Nat) (fl : Int → Int → Int → Int) (r f t : Int) (d : Int) (M : ev_M) : Prop := ∀ d' p : Int, d ≤ d' → d' ≤ gz G r → f ≤ p → p ≤ t → aT_rest M (d' * 11 + p).toNat = ((min (rw' G v r t (gz G r).toNat ((gz G r).toNat - d'.toNat) p) 1000000000 : Nat) : Int) ∧ (rw' G v r t (gz G r).toNat ((gz G r).toNat - d'.toNat) p ≠ 0 → sfR G v fl r t (gz G r).toNat ((gz G r).toNat - d'.toNat) p (aT_firstRest M (d' * 11 + p).toNat))
theorem wRest.of {d : Int} (h : wRest G v fl r f t d M) (e1 : M'.2 23 = M.2 23) (e2 : M'.2 24 = M.2 24) : wRest G v fl r f t d M' := by
  unfold wRest at h ⊢
  simp only [aT_rest, aT_firstRest] at h ⊢
  rw [e1, e2]
  exact h
set_option maxHeartbeats 1000000 in
theorem g_m50 {Q : Int → ev_M → Prop} (hG : okG G) (hC : isC G M) (hR : tR' M) (hv : ∀ x p e : Int, vC M x p e ≠ 0 → p ≤ e) (hfl : ∀ x p e : Int, vC M x p e ≠ 0 → 0 ≤ fC' M x p e ∧ fC' M x p e ≤ 500000) (hr : 0 ≤ r ∧ r < gn G) (hf : 0 ≤ f ∧ f ≤ t ∧ t ≤ 10) (h : ∀ M' : ev_M, fr [] [23, 24] M M' → wRest G (vC M) (fC' M) r f t 0 M' → Q ((min (rw' G (vC M) r t (gz G r).toNat (gz G r).toNat f) 1000000000 : Nat) : Int) M') : m50 r f t M Q := by
  have gc := hG.1
  have hg := hG.2 r hr.1 hr.2
  have hz := hg.2.1
  obtain ⟨-, esz, esy⟩ := hC.2 r hr.1 hr.2
  refine b50 ⟨⟨hr.1, by omega⟩, ?_⟩
  rw [esz]
  refine lp (σ := ev_M) (n := t + 1) (c := fun p M1 => c50_14 r f t (gz G r) p M1 Q) (P := fun p M1 => f ≤ p ∧ fr [] [23, 24] M M1 ∧ ∀ q : Int, f ≤ q → q < p → aT_rest M1 (gz G r * 11 + q).toNat = (if q = t then 1 else 0) ∧ aT_firstRest M1 (gz G r * 11 + q).toNat = 0) ?_ ?_ hf.1 (by omega) ⟨Int.le_refl _, fr.refl, fun q a1 a2 => by omega⟩
  · rintro p M1 p0 p1 ⟨hfp, hf1, hq⟩ ih
    have put : ∀ x : Int, x = (if p = t then 1 else 0) → c50_43 r f t (gz G r) p (gz G r * 11 + p) x M1 Q := by
      intro x hx
      refine b50_43 ⟨⟨by omega, by omega⟩, ⟨by omega, by omega⟩, ⟨by omega, by omega⟩, ⟨by omega, by omega⟩, ⟨by omega, by omega⟩, ih _ ⟨by omega, (hf1.sA (by decide)).sA (by decide), fun q a1 a2 => ?_⟩⟩
      show (ev_sA M1 23 (gz G r * 11 + p).toNat x).2 23 (gz G r * 11 + q).toNat = _ ∧ (ev_sA (ev_sA M1 23 (gz G r * 11 + p).toNat x) 24 (gz G r * 11 + p).toNat 0).2 24 (gz G r * 11 + q).toNat = 0
      by_cases e : q = p
      · rw [e, sA_same, sA_same]; exact ⟨hx, rfl⟩
      · rw [sA_ne (by omega), sA_ne (by omega)]
        exact hq q a1 (by omega)
    refine b50_14 ⟨fun g => absurd g (by omega), fun _ => ⟨⟨by omega, by omega⟩, ⟨by omega, by omega⟩, fun g => put 0 (by rw [if_neg g]), fun g => put 1 (by rw [if_pos (Decidable.of_not_not g)])⟩⟩
  · rintro M1 ⟨-, hf1, hq⟩
    refine b50_14 ⟨fun _ => ⟨⟨by omega, by omega⟩, ?_⟩, fun g => absurd (by omega) g⟩
    -- the dots, from the last one down
    refine lpd (σ := ev_M) (c := fun d M1 => c50_70 r f t d M1 Q) (P := fun d M1 => d < gz G r ∧ fr [] [23, 24] M M1 ∧ wRest G (vC M) (fC' M) r f t (d + 1) M1) ?_ ?_ (by omega) ⟨by omega, hf1, fun d' p a1 a2 a3 a4 => ?_⟩
    · rintro d M1 d0 ⟨d1, hf1, hW⟩ ih
      have hsy := hg.2.2 d d0 d1
      have esd : gR M1 r d = gs G r d := by
        show M1.2 4 _ = _
        rw [hf1.2 4 (by decide)]; exact esy d d0 d1
      refine b50_70 ⟨fun g => absurd g (by omega), fun _ => g_m4 ⟨hr.1, by omega⟩ ⟨d0, by omega⟩ ?_⟩
      rw [esd]
      have ezk : ((gz G r).toNat - d.toNat) = ((gz G r).toNat - (d + 1).toNat) + 1 := by omega
      have edz : (((gz G r).toNat - (((gz G r).toNat - (d + 1).toNat) + 1) : Nat) : Int) = d := by omega
      refine lp (σ := ev_M) (n := t + 1) (c := fun p M1 => c50_90 r f t d (gs G r d) p M1 Q) (P := fun p M1 => f ≤ p ∧ fr [] [23, 24] M M1 ∧ wRest G (vC M) (fC' M) r f t (d + 1) M1 ∧ ∀ q : Int, f ≤ q → q < p → aT_rest M1 (d * 11 + q).toNat = ((min (rw' G (vC M) r t (gz G r).toNat ((gz G r).toNat - d.toNat) q) 1000000000 : Nat) : Int) ∧ (rw' G (vC M) r t (gz G r).toNat ((gz G r).toNat - d.toNat) q ≠ 0 → sfR G (vC M) (fC' M) r t (gz G r).toNat ((gz G r).toNat - d.toNat) q (aT_firstRest M1 (d * 11 + q).toNat))) ?_ ?_ hf.1 (by omega) ⟨Int.le_refl _, hf1, hW, fun q a1 a2 => by omega⟩
      · rintro p M2 p0 p1 ⟨hfp, hf2, hW2, hq2⟩ ihp
        refine b50_90 ⟨fun g => absurd g (by omega), fun _ => ?_⟩
        -- the sum over the ends
        refine lp (σ := Int × ev_M) (n := t + 1) (c := fun e s => c50_103 r f t d (gs G r d) p s.1 e s.2 Q) (P := fun e s => p ≤ e ∧ fr [] [23, 24] M s.2 ∧ wRest G (vC M) (fC' M) r f t (d + 1) s.2 ∧ (∀ q : Int, f ≤ q → q < p → aT_rest s.2 (d * 11 + q).toNat = ((min (rw' G (vC M) r t (gz G r).toNat ((gz G r).toNat - d.toNat) q) 1000000000 : Nat) : Int) ∧ (rw' G (vC M) r t (gz G r).toNat ((gz G r).toNat - d.toNat) q ≠ 0 → sfR G (vC M) (fC' M) r t (gz G r).toNat ((gz G r).toNat - d.toNat) q (aT_firstRest s.2 (d * 11 + q).toNat))) ∧ s.1 = ((min (sumN (fun e => vC M (gs G r d) p (e : Int) * rw' G (vC M) r t (gz G r).toNat ((gz G r).toNat - (d + 1).toNat) (e : Int)) e.toNat) 1000000000 : Nat) : Int) ∧ (sumN (fun e => vC M (gs G r d) p (e : Int) * rw' G (vC M) r t (gz G r).toNat ((gz G r).toNat - (d + 1).toNat) (e : Int)) e.toNat ≠ 0 → sfR G (vC M) (fC' M) r t (gz G r).toNat ((gz G r).toNat - d.toNat) p (aT_firstRest s.2 (d * 11 + p).toNat))) ?_ ?_ (r := p) (s := (0, M2)) p0 (by omega) ⟨Int.le_refl _, hf2, hW2, hq2, ?_, ?_⟩
        · rintro e ⟨S, M3⟩ e0 e1 ⟨hpe, hf3, hW3, hq3, hS, hF⟩ ihe
          dsimp only at hf3 hW3 hq3 hS hF ihe ⊢
          have e21 : M3.2 21 = M.2 21 := hf3.2 21 (by decide)
          have e22 : M3.2 22 = M.2 22 := hf3.2 22 (by decide)
          obtain ⟨hre, hfre⟩ := hW3 (d + 1) e (Int.le_refl _) (by omega) (by omega) (by omega)
          obtain ⟨A, hA⟩ : ∃ A : Nat, A = sumN (fun e => vC M (gs G r d) p (e : Int) * rw' G (vC M) r t (gz G r).toNat ((gz G r).toNat - (d + 1).toNat) (e : Int)) e.toNat := ⟨_, rfl⟩
          obtain ⟨X, hX⟩ : ∃ X : Nat, X = rw' G (vC M) r t (gz G r).toNat ((gz G r).toNat - (d + 1).toNat) e := ⟨_, rfl⟩
          obtain ⟨V, hV⟩ : ∃ V : Nat, V = vC M (gs G r d) p e := ⟨_, rfl⟩
          have enx : sumN (fun e => vC M (gs G r d) p (e : Int) * rw' G (vC M) r t (gz G r).toNat ((gz G r).toNat - (d + 1).toNat) (e : Int)) (e + 1).toNat = A + V * X := by
            rw [show (e + 1).toNat = e.toNat + 1 by omega, hA, hV, hX]
            show _ + vC M (gs G r d) p ((e.toNat : Nat) : Int) * rw' G (vC M) r t (gz G r).toNat ((gz G r).toNat - (d + 1).toNat) ((e.toNat : Nat) : Int) = _
            rw [show ((e.toNat : Nat) : Int) = e by omega]
          rw [← hX] at hre hfre
          rw [← hA] at hS hF
          have hcn : aT_count M3 ((gs G r d * 11 + p) * 11 + e).toNat = (V : Int) := by
            show M3.2 21 _ = _
            rw [e21, hV]
            exact vC_at hR hsy ⟨by omega, by omega⟩ ⟨by omega, by omega⟩
          have hVle : V ≤ 1000000000 := by
            have := hR ((gs G r d * 11 + p) * 11 + e).toNat (by omega)
            have h2 := vC_at hR hsy (p := p) (e := e) ⟨by omega, by omega⟩ ⟨by omega, by omega⟩
            rw [← hV] at h2
            omega
          have hXle := Nat.min_le_right X 1000000000
          have hAle := Nat.min_le_right A 1000000000
          have hprod : V * min X 1000000000 ≤ 1000000000 * 1000000000 := Nat.mul_le_mul hVle hXle
          have eprod : aT_count M3 ((gs G r d * 11 + p) * 11 + e).toNat * aT_rest M3 ((d + 1) * 11 + e).toNat = ((V * min X 1000000000 : Nat) : Int) := by
            rw [hcn, hre, Int.natCast_mul]
          -- on, with the new sum
          have on : ∀ M4 : ev_M, fr [] [23, 24] M M4 → wRest G (vC M) (fC' M) r f t (d + 1) M4 → (∀ q : Int, f ≤ q → q < p → aT_rest M4 (d * 11 + q).toNat = ((min (rw' G (vC M) r t (gz G r).toNat ((gz G r).toNat - d.toNat) q) 1000000000 : Nat) : Int) ∧ (rw' G (vC M) r t (gz G r).toNat ((gz G r).toNat - d.toNat) q ≠ 0 → sfR G (vC M) (fC' M) r t (gz G r).toNat ((gz G r).toNat - d.toNat) q (aT_firstRest M4 (d * 11 + q).toNat))) → (A + V * X ≠ 0 → sfR G (vC M) (fC' M) r t (gz G r).toNat ((gz G r).toNat - d.toNat) p (aT_firstRest M4 (d * 11 + p).toNat)) → c50_192 r f t d (gs G r d) p S e (aT_count M3 ((gs G r d * 11 + p) * 11 + e).toNat * aT_rest M3 ((d + 1) * 11 + e).toNat) M4 Q := by
            intro M4 hf4 hW4 hq4 hF4
            rw [eprod, hS]
            have ei : ((min A 1000000000 : Nat) : Int) + ((V * min X 1000000000 : Nat) : Int) = ((min A 1000000000 + V * min X 1000000000 : Nat) : Int) := by omega
            refine b50_192 ⟨⟨by omega, by omega⟩, ?_⟩
            rw [ei]
            refine g_m49 ⟨⟨by omega, by omega⟩, ihe (_, M4) ⟨by omega, hf4, hW4, hq4, ?_, ?_⟩⟩
            · show ((min (min A 1000000000 + V * min X 1000000000) 1000000000 : Nat) : Int) = _
              rw [enx, cap_add rfl V]
            · rw [enx]; exact hF4
          refine b50_103 ⟨fun g => absurd g (by omega), fun _ => g_m46 hsy ⟨by omega, by omega⟩ ⟨by omega, by omega⟩ ⟨⟨by omega, by omega⟩, ⟨by omega, by omega⟩, ⟨by omega, by omega⟩, ⟨by omega, by omega⟩, ⟨by omega, by omega⟩, ?_, fun hS0 => on M3 hf3 hW3 hq3 (fun _ => hF ?_), fun hS0 => ⟨fun hw0 => on M3 hf3 hW3 hq3 (fun hne => hF ?_), fun hw1 => ?_⟩⟩⟩
          · rw [eprod]; exact ⟨by omega, by omega⟩
          · intro hA0; rw [hA0] at hS; exact hS0 (by rw [hS]; rfl)
          · rw [eprod] at hw0
            have hz0 : V * min X 1000000000 = 0 := by omega
            intro hA0
            rcases Nat.mul_eq_zero.mp hz0 with h0 | h0
            · rw [h0, hA0, Nat.zero_mul] at hne; exact hne rfl
            · have : X = 0 := by omega
              rw [this, hA0, Nat.mul_zero] at hne; exact hne rfl
          · rw [eprod] at hw1
            have hpos : V ≠ 0 ∧ X ≠ 0 := by
              refine ⟨fun h0 => hw1 (by rw [h0, Nat.zero_mul]; exact Int.le_refl _), fun h0 => hw1 (by rw [h0]; exact Int.le_refl _)⟩
            have hA0 : A = 0 := by
              have h1 : S = 0 := Decidable.of_not_not hS0
              rw [h1] at hS
              omega
            have hfr2 := hfre hpos.2
            have hfl1 := hfl (gs G r d) p e (by rw [← hV]; exact hpos.1)
            have hfl2 := sfR_le (B := 500000) hfl _ _ _ hfr2
            have efl : aT_firstLength M3 ((gs G r d * 11 + p) * 11 + e).toNat = fC' M (gs G r d) p e := congrFun e22 _
            have hk4 : (((gz G r).toNat - (d + 1).toNat : Nat) : Int) ≤ 4 := by omega
            have hmul : (500000 : Int) * (((gz G r).toNat - (d + 1).toNat : Nat) : Int) ≤ 2000000 := by omega
            refine ⟨⟨by omega, by omega⟩, ⟨by omega, by omega⟩, ⟨by omega, by omega⟩, ⟨by omega, by omega⟩, ?_, ⟨by omega, by omega⟩, on _ (hf3.sA (by decide)) ?_ (fun q a1 a2 => ?_) (fun _ => ?_)⟩
            · rw [efl]; exact ⟨by omega, by omega⟩
            · intro d' p' a1 a2 a3 a4
              have hh := hW3 d' p' a1 a2 a3 a4
              show M3.2 23 _ = _ ∧ (_ → sfR G (vC M) (fC' M) r t (gz G r).toNat ((gz G r).toNat - d'.toNat) p' ((ev_sA M3 24 (d * 11 + p).toNat _).2 24 (d' * 11 + p').toNat))
              rw [sA_ne (by omega)]
              exact hh
            · have hh := hq3 q a1 a2
              show M3.2 23 _ = _ ∧ (_ → sfR G (vC M) (fC' M) r t (gz G r).toNat ((gz G r).toNat - d.toNat) q ((ev_sA M3 24 (d * 11 + p).toNat _).2 24 (d * 11 + q).toNat))
              rw [sA_ne (by omega)]
              exact hh
            · show sfR G (vC M) (fC' M) r t (gz G r).toNat ((gz G r).toNat - d.toNat) p ((ev_sA M3 24 (d * 11 + p).toNat _).2 24 (d * 11 + p).toNat)
              rw [sA_same, ezk, efl]
              refine ⟨e, aT_firstRest M3 ((d + 1) * 11 + e).toNat, ?_, ⟨by omega, by omega⟩, fun e' e0' e1' => ?_, hfr2, ?_⟩
              · rw [edz, ← hV, ← hX]
                exact Nat.mul_ne_zero hpos.1 hpos.2
              · rw [edz]
                have hsm : sumN (fun e => vC M (gs G r d) p (e : Int) * rw' G (vC M) r t (gz G r).toNat ((gz G r).toNat - (d + 1).toNat) (e : Int)) (e'.toNat + 1) ≤ A := by
                  rw [hA]; exact sumN_mono (by omega)
                have hsm2 : sumN (fun e => vC M (gs G r d) p (e : Int) * rw' G (vC M) r t (gz G r).toNat ((gz G r).toNat - (d + 1).toNat) (e : Int)) e'.toNat + vC M (gs G r d) p ((e'.toNat : Nat) : Int) * rw' G (vC M) r t (gz G r).toNat ((gz G r).toNat - (d + 1).toNat) ((e'.toNat : Nat) : Int) ≤ A := hsm
                rw [show ((e'.toNat : Nat) : Int) = e' by omega] at hsm2
                omega
              · rw [edz]
        · rintro ⟨S, M3⟩ ⟨-, hf3, hW3, hq3, hS, hF⟩
          dsimp only at hf3 hW3 hq3 hS hF ⊢
          have hfull : sumN (fun e => vC M (gs G r d) p (e : Int) * rw' G (vC M) r t (gz G r).toNat ((gz G r).toNat - (d + 1).toNat) (e : Int)) (t + 1).toNat = rw' G (vC M) r t (gz G r).toNat ((gz G r).toNat - d.toNat) p := by
            rw [ezk]
            show _ = sumN (fun e => vC M (gs G r (((gz G r).toNat - (((gz G r).toNat - (d + 1).toNat) + 1) : Nat) : Int)) p (e : Int) * rw' G (vC M) r t (gz G r).toNat ((gz G r).toNat - (d + 1).toNat) (e : Int)) 11
            rw [edz]
            exact (sumN_skip (by omega) (fun e e0 e1 => by rw [rw_hi hv _ _ (by omega), Nat.mul_zero])).symm
          rw [hfull] at hS hF
          refine b50_103 ⟨fun _ => ⟨⟨by omega, by omega⟩, ⟨by omega, by omega⟩, ⟨by omega, by omega⟩, ⟨by omega, by omega⟩, ihp _ ⟨by omega, hf3.sA (by decide), fun d' p' a1 a2 a3 a4 => ?_, fun q a1 a2 => ?_⟩⟩, fun g => absurd (by omega) g⟩
          · have hh := hW3 d' p' a1 a2 a3 a4
            show (ev_sA M3 23 (d * 11 + p).toNat S).2 23 (d' * 11 + p').toNat = _ ∧ _
            rw [sA_ne (by omega)]
            exact hh
          · show (ev_sA M3 23 (d * 11 + p).toNat S).2 23 (d * 11 + q).toNat = _ ∧ _
            by_cases e : q = p
            · rw [e, sA_same]; exact ⟨hS, hF⟩
            · rw [sA_ne (by omega)]
              exact hq3 q a1 (by omega)
        · rw [sumN_zero (fun e he => by rw [Decidable.byContradiction (fun hne => absurd (hv _ _ _ hne) (by omega)) (p := vC M (gs G r d) p (e : Int) = 0), Nat.zero_mul])]; rfl
        · intro hne
          exact absurd (sumN_zero (fun e he => by rw [Decidable.byContradiction (fun hne => absurd (hv _ _ _ hne) (by omega)) (p := vC M (gs G r d) p (e : Int) = 0), Nat.zero_mul])) hne
      · rintro M2 ⟨-, hf2, hW2, hq2⟩
        refine b50_90 ⟨fun _ => ⟨⟨by omega, by omega⟩, ih M2 ⟨by omega, hf2, fun d' p' a1 a2 a3 a4 => ?_⟩⟩, fun g => absurd (by omega) g⟩
        by_cases e : d' = d
        · rw [e]; exact hq2 p' a3 (by omega)
        · exact hW2 d' p' (by omega) a2 a3 a4
    · rintro M2 ⟨-, hf2, hW2⟩
      have h0 := (hW2 0 f (by omega) (by omega) (Int.le_refl _) hf.2.1).1
      rw [show 0 * 11 + f = f by omega, show (gz G r).toNat - (0 : Int).toNat = (gz G r).toNat by omega] at h0
      refine b50_70 ⟨fun _ => ⟨⟨hf.1, by omega⟩, ?_⟩, fun g => absurd (by omega) g⟩
      rw [h0]
      exact h M2 hf2 hW2
    · have e : d' = gz G r := by omega
      rw [e, Nat.sub_self]
      obtain ⟨q1, q2⟩ := hq p a3 (by omega)
      refine ⟨?_, fun _ => q2⟩
      rw [q1]
      show _ = ((min (if p = t then 1 else 0) 1000000000 : Nat) : Int)
      split <;> rfl
end WR
