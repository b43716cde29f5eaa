/-! Counting the families -/
/-- the ways of the first k symbols of rule r from f to p -/
def fw (G : gT) (v : Int → Int → Int → Nat) (r f : Int) : Nat → Int → Nat
  | 0, p => if p = f then 1 else 0
  | k + 1, e => sumN (fun p => v (gs G r (k : Int)) (p : Int) e * fw G v r f k (p : Int)) 11
section FW
variable {G : gT} {v : Int → Int → Int → Nat} {T : Int → Int → Int → Bool} {m f t r : Int}
theorem fw_rw {z : Nat} (hf : 0 ≤ f ∧ f ≤ 10) : ∀ d : Nat, d ≤ z → sumN (fun p => fw G v r f d (p : Int) * rw' G v r t z (z - d) (p : Int)) 11 = rw' G v r t z z f := by
  intro d
  induction d with
  | zero =>
    intro _
    have fn : (f.toNat : Int) = f := by omega
    rw [sumN_one (a := f.toNat) (by omega) (fun k hk hne => ?_)]
    · show (if (f.toNat : Int) = f then 1 else 0) * rw' G v r t z (z - 0) (f.toNat : Int) = _
      rw [if_pos fn, Nat.one_mul, fn, Nat.sub_zero]
    · show (if (k : Int) = f then 1 else 0) * _ = 0
      rw [if_neg (by omega), Nat.zero_mul]
  | succ d ih =>
    intro hd
    rw [← ih (by omega)]
    have e : ∀ p : Int, rw' G v r t z (z - d) p = sumN (fun e => v (gs G r (d : Int)) p (e : Int) * rw' G v r t z (z - (d + 1)) (e : Int)) 11 := by
      intro p
      rw [show z - d = (z - (d + 1)) + 1 by omega]
      show sumN (fun e => v (gs G r ((z - (z - (d + 1) + 1) : Nat) : Int)) p (e : Int) * rw' G v r t z (z - (d + 1)) (e : Int)) 11 = _
      rw [show z - (z - (d + 1) + 1) = d by omega]
    have e2 : ∀ p : Nat, p < 11 → fw G v r f d (p : Int) * rw' G v r t z (z - d) (p : Int) = sumN (fun e => fw G v r f d (p : Int) * (v (gs G r (d : Int)) (p : Int) (e : Int) * rw' G v r t z (z - (d + 1)) (e : Int))) 11 := by
      intro p _
      rw [e, sumN_mul]
    rw [sumN_congr e2, sumN_swap]
    refine sumN_congr (fun q hq => ?_)
    show sumN (fun p => v (gs G r (d : Int)) (p : Int) (q : Int) * fw G v r f d (p : Int)) 11 * rw' G v r t z (z - (d + 1)) (q : Int) = _
    rw [Nat.mul_comm, ← sumN_mul]
    refine sumN_congr (fun p hp => ?_)
    rw [Nat.mul_comm (v _ _ _) (fw G v r f d _), Nat.mul_left_comm, Nat.mul_comm (rw' _ _ _ _ _ _ _) (v _ _ _)]
theorem fw_end {z : Nat} (hf : 0 ≤ f ∧ f ≤ 10) (ht : 0 ≤ t ∧ t ≤ 10) : fw G v r f z t = rw' G v r t z z f := by
  rw [← fw_rw (z := z) hf z (Nat.le_refl _)]
  have tn : (t.toNat : Int) = t := by omega
  rw [sumN_one (a := t.toNat) (by omega) (fun k hk hne => ?_)]
  · rw [Nat.sub_self]
    show _ = fw G v r f z (t.toNat : Int) * (if (t.toNat : Int) = t then 1 else 0)
    rw [if_pos tn, Nat.mul_one, tn]
  · rw [Nat.sub_self]
    show _ * (if (k : Int) = t then 1 else 0) = 0
    rw [if_neg (by omega), Nat.mul_zero]
theorem fw_lo (hv : ∀ x p e : Int, v x p e ≠ 0 → p ≤ e) : ∀ (d : Nat) (p : Int), p < f → fw G v r f d p = 0 := by
  intro d
  induction d with
  | zero => intro p hp; exact if_neg (by omega)
  | succ d ih =>
    intro p hp
    refine sumN_zero (fun k hk => ?_)
    by_cases e : (k : Int) ≤ p
    · rw [ih k (by omega), Nat.mul_zero]
    · rw [Decidable.byContradiction (fun hn => e (hv _ _ _ hn)) (p := v (gs G r (d : Int)) (k : Int) p = 0), Nat.zero_mul]
theorem fw_le (hv : ∀ x p e : Int, v x p e ≤ 1) : ∀ (d : Nat) (p : Int), fw G v r f d p ≤ 11 ^ d := by
  intro d
  induction d with
  | zero => intro p; show (if p = f then 1 else 0) ≤ 1; split <;> omega
  | succ d ih =>
    intro p
    have h1 : fw G v r f (d + 1) p ≤ sumN (fun _ => 11 ^ d) 11 := by
      refine sumN_le (fun k hk => ?_)
      have h2 := Nat.mul_le_mul (hv (gs G r (d : Int)) (k : Int) p) (ih (k : Int))
      omega
    have h3 : sumN (fun _ => 11 ^ d) 11 = 11 ^ (d + 1) := by
      show 0 + 11 ^ d + 11 ^ d + 11 ^ d + 11 ^ d + 11 ^ d + 11 ^ d + 11 ^ d + 11 ^ d + 11 ^ d + 11 ^ d + 11 ^ d = 11 ^ (d + 1)
      rw [Nat.pow_succ]; omega
    omega
/-- the chart as weights -/
def vT (T : Int → Int → Int → Bool) (x p e : Int) : Nat := (T x p e).toNat
/-- how many families a node has -/
def nfam (G : gT) (T : Int → Int → Int → Bool) (m f t : Int) : Nat := sumN (wt G (vT T) m f t) 18634
theorem vT_le (x p e : Int) : vT T x p e ≤ 1 := Bool.toNat_le _
end FW
section CFA
variable {G : gT} {n : Int} {w : Int → Int} {T : Int → Int → Int → Bool} {m f t r : Int} {M M' : ev_M}
theorem vT_ord (hG : okG G) (hT : okT n w) (hD : isD G n w T) (x p e : Int) (h : vT T x p e ≠ 0) : p ≤ e := by
  have : T x p e = true := by
    cases hc : T x p e with
    | true => rfl
    | false => exact absurd (show vT T x p e = 0 by unfold vT; rw [hc]; rfl) h
  exact (((hD _ _ _).mp this).rng hG hT).2.2.1
theorem g_m42 {Q : Int → ev_M → Prop} (hG : okG G) (hT : okT n w) (hD : isD G n w T) (hC : isC G M) (hc : CHT G n w M) (hr : 0 ≤ r ∧ r < gn G) (hf : 0 ≤ f ∧ f ≤ t ∧ t ≤ n) (h : ∀ M' : ev_M, fr [] [19] M M' → Q ((rw' G (vT T) r t (gz G r).toNat (gz G r).toNat f : Nat) : Int) M') : m42 r f t M Q := by
  have hn := hT.1
  have gc := hG.1
  have hg := hG.2 r hr.1 hr.2
  obtain ⟨-, esz, esy⟩ := hC.2 r hr.1 hr.2
  have vo := vT_ord hG hT hD
  have hf0 : fr [] [19] M (ev_sA (ev_fl M 19 11 0) 19 f.toNat 1) := by
    have : fr [] [19] M (ev_fl M 19 11 0) := ⟨fun _ _ => rfl, fun c hc => if_neg (fun e => hc (by rw [e]; decide))⟩
    exact this.sA (by decide)
  refine b42 (m1_fill (n := 11) (by decide) (fun _ => rfl) (fun _ _ _ => rfl) ⟨⟨hf.1, by omega⟩, ?_⟩)
  refine lp (σ := ev_M) (n := gz G r) (c := fun d M1 => c42_18 r f t d M1 Q) (P := fun d M1 => fr [] [19] M M1 ∧ ∀ e : Int, f ≤ e → e ≤ t → aU_ways M1 e.toNat = ((fw G (vT T) r f d.toNat e : Nat) : Int)) ?_ ?_ (by omega) hg.2.1.1 ⟨hf0, fun e e0 e1 => ?_⟩
  · rintro d M1 d0 d1 ⟨hf1, hw1⟩ ih
    have esz1 : aG_size M1 r.toNat = gz G r := (congrFun (hf1.2 3 (by decide)) _).trans esz
    have hsy := hg.2.2 d d0 d1
    have ed : ((d.toNat : Nat) : Int) = d := by omega
    have pd : 11 ^ d.toNat ≤ 11 ^ 3 := Nat.pow_le_pow_right (by decide) (by omega)
    refine b42_18 ⟨⟨hr.1, by omega⟩, fun g => absurd g (by rw [esz1]; omega), fun _ => ?_⟩
    -- the ends, from the last one down
    have down : ∀ (k : Nat) (e : Int) (M2 : ev_M), e - f + 1 ≤ k → f - 1 ≤ e → e ≤ t → fr [] [19] M M2 → (∀ q : Int, f ≤ q → q ≤ e → aU_ways M2 q.toNat = ((fw G (vT T) r f d.toNat q : Nat) : Int)) → (∀ q : Int, e < q → f ≤ q → q ≤ t → aU_ways M2 q.toNat = ((fw G (vT T) r f (d.toNat + 1) q : Nat) : Int)) → c42_35 r f t d e M2 Q := by
      intro k
      induction k with
      | zero =>
        intro e M2 hk e0 e1 hf2 h1 h2
        refine b42_35 ⟨fun _ => ⟨⟨by omega, by omega⟩, ih M2 ⟨hf2, fun q q0 q1 => ?_⟩⟩, fun g => absurd (by omega) g⟩
        rw [show (d + 1).toNat = d.toNat + 1 by omega]
        exact h2 q (by omega) q0 q1
      | succ k ihk =>
        intro e M2 hk e0 e1 hf2 h1 h2
        by_cases hef : e < f
        · refine b42_35 ⟨fun _ => ⟨⟨by omega, by omega⟩, ih M2 ⟨hf2, fun q q0 q1 => ?_⟩⟩, fun g => absurd hef g⟩
          rw [show (d + 1).toNat = d.toNat + 1 by omega]
          exact h2 q (by omega) q0 q1
        refine b42_35 ⟨fun g => absurd g hef, fun _ => ?_⟩
        have hC2 : isC G M2 := hC.of (hf2.1 3 (by decide)) (hf2.2 2 (by decide)) (hf2.2 3 (by decide)) (hf2.2 4 (by decide))
        have hc2 : CHT G n w M2 := hc.of (hf2.2 12 (by decide))
        have esd : gR M2 r d = gs G r d := (hC2.2 r hr.1 hr.2).2.2 d d0 d1
        refine lp (σ := Int) (n := e + 1) (c := fun b a => c42_47 r f t d e a b M2 Q) (P := fun b a => f ≤ b ∧ a = ((sumN (fun p => vT T (gs G r d) (p : Int) e * fw G (vT T) r f d.toNat (p : Int)) b.toNat : Nat) : Int)) ?_ ?_ hf.1 (by omega) ⟨Int.le_refl _, ?_⟩
        · rintro b a b0 b1 ⟨hfb, ha⟩ ihb
          have hb1 := fw_le (G := G) (v := vT T) (r := r) (f := f) vT_le d.toNat b
          have hsum : sumN (fun p => vT T (gs G r d) (p : Int) e * fw G (vT T) r f d.toNat (p : Int)) b.toNat ≤ 11 * 11 ^ 3 := by
            have h3 : sumN (fun p => vT T (gs G r d) (p : Int) e * fw G (vT T) r f d.toNat (p : Int)) b.toNat ≤ sumN (fun _ => 11 ^ 3) b.toNat := by
              refine sumN_le (fun p hp => ?_)
              have h4 := Nat.mul_le_mul (vT_le (T := T) (gs G r d) (p : Int) e) (fw_le (G := G) (v := vT T) (r := r) (f := f) vT_le d.toNat (p : Int))
              omega
            have h5 : sumN (fun _ => 11 ^ 3) b.toNat ≤ sumN (fun _ => 11 ^ 3) 11 := sumN_mono (by omega)
            have h6 : sumN (fun _ => 11 ^ 3) 11 = 11 * 11 ^ 3 := by decide
            omega
          have enx : sumN (fun p => vT T (gs G r d) (p : Int) e * fw G (vT T) r f d.toNat (p : Int)) (b + 1).toNat = sumN (fun p => vT T (gs G r d) (p : Int) e * fw G (vT T) r f d.toNat (p : Int)) b.toNat + vT T (gs G r d) b e * fw G (vT T) r f d.toNat b := by
            rw [show (b + 1).toNat = b.toNat + 1 by omega]
            show _ + vT T (gs G r d) ((b.toNat : Nat) : Int) e * fw G (vT T) r f d.toNat ((b.toNat : Nat) : Int) = _
            rw [show ((b.toNat : Nat) : Int) = b by omega]
          have hwb := h1 b hfb (by omega)
          have add : ∀ x : Int, x = ((vT T (gs G r d) b e * fw G (vT T) r f d.toNat b : Nat) : Int) → c42_91 r f t d e b a x M2 Q := by
            intro x hx
            have h4 := Nat.mul_le_mul (vT_le (T := T) (gs G r d) b e) hb1
            refine b42_91 ⟨⟨by omega, by omega⟩, ⟨by omega, by omega⟩, ihb (a + x) ⟨by omega, ?_⟩⟩
            rw [enx]; omega
          refine b42_47 ⟨fun g => absurd g (by omega), fun _ => g_m4 ⟨hr.1, by omega⟩ ⟨d0, by omega⟩ ?_⟩
          rw [esd]
          refine g_m24 hG hT hc2 hsy ⟨b0, by omega⟩ ⟨by omega, by omega⟩ (fun hd => ⟨fun g => absurd g (by decide), fun _ => ⟨⟨b0, by omega⟩, add _ ?_⟩⟩) (fun hd => ⟨fun _ => add 0 ?_, fun g => absurd rfl g⟩)
          · rw [hwb]
            unfold vT
            rw [(hD _ _ _).mpr hd]
            show _ = ((1 * _ : Nat) : Int)
            rw [Nat.one_mul]
          · have : T (gs G r d) b e = false := Bool.eq_false_iff.mpr (fun h => hd ((hD _ _ _).mp h))
            unfold vT
            rw [this]
            show (0 : Int) = ((0 * _ : Nat) : Int)
            rw [Nat.zero_mul]; rfl
        · rintro a ⟨-, ha⟩
          have hfull : sumN (fun p => vT T (gs G r d) (p : Int) e * fw G (vT T) r f d.toNat (p : Int)) (e + 1).toNat = fw G (vT T) r f (d.toNat + 1) e := by
            show _ = sumN (fun p => vT T (gs G r ((d.toNat : Nat) : Int)) (p : Int) e * fw G (vT T) r f d.toNat (p : Int)) 11
            rw [ed]
            refine (sumN_skip (by omega) (fun p p0 p1 => ?_)).symm
            rw [Decidable.byContradiction (fun hne => absurd (vo _ _ _ hne) (by omega)) (p := vT T (gs G r d) (p : Int) e = 0), Nat.zero_mul]
          rw [hfull] at ha
          refine b42_47 ⟨fun _ => ⟨⟨by omega, by omega⟩, ⟨by omega, by omega⟩, ihk (e + (-1)) _ (by omega) (by omega) (by omega) (hf2.sA (by decide)) (fun q q0 q1 => ?_) (fun q q0 q1 q2 => ?_)⟩, fun g => absurd (by omega) g⟩
          · show (ev_sA M2 19 e.toNat a).2 19 q.toNat = _
            rw [sA_ne (by omega)]
            exact h1 q q0 (by omega)
          · show (ev_sA M2 19 e.toNat a).2 19 q.toNat = _
            by_cases eq : q = e
            · rw [eq, sA_same]; exact ha
            · rw [sA_ne (by omega)]
              exact h2 q (by omega) q1 q2
        · rw [sumN_zero (fun p hp => by rw [fw_lo vo _ _ (by omega), Nat.mul_zero])]
          rfl
    exact down (t - f + 1).toNat t M1 (by omega) (by omega) (by omega) hf1 (fun q q0 q1 => hw1 q q0 q1) (fun q q0 q1 q2 => by omega)
  · rintro M1 ⟨hf1, hw1⟩
    have esz1 : aG_size M1 r.toNat = gz G r := (congrFun (hf1.2 3 (by decide)) _).trans esz
    refine b42_18 ⟨⟨hr.1, by omega⟩, fun _ => ⟨⟨by omega, by omega⟩, ?_⟩, fun g => absurd (by rw [esz1]; omega) g⟩
    rw [hw1 t hf.2.1 (Int.le_refl _), fw_end (by omega) (by omega)]
    exact h M1 hf1
  · show (ev_sA (ev_fl M 19 11 0) 19 f.toNat 1).2 19 e.toNat = (((if e = f then 1 else 0 : Nat)) : Int)
    by_cases ef : e = f
    · rw [if_pos ef, ef, sA_same]; rfl
    · rw [if_neg ef, sA_ne (by omega)]
      show (if 19 = 19 then (fun j => if j < 11 then 0 else M.2 19 j) else M.2 19) e.toNat = 0
      rw [if_pos rfl]
      exact if_pos (by omega)
theorem rw_le (hG : okG G) {q : Int} (hq : 0 ≤ q ∧ q < gn G) (hf : 0 ≤ f ∧ f ≤ 10) (ht : 0 ≤ t ∧ t ≤ 10) : rw' G (vT T) q t (gz G q).toNat (gz G q).toNat f ≤ 14641 := by
  rw [← fw_end hf ht]
  have g := (hG.2 q hq.1 hq.2).2.1
  have h1 := fw_le (G := G) (v := vT T) (r := q) (f := f) vT_le (gz G q).toNat t
  have h2 : 11 ^ (gz G q).toNat ≤ 11 ^ 4 := Nat.pow_le_pow_right (by decide) (by omega)
  omega
theorem g_m43 {Q : Int → ev_M → Prop} (hG : okG G) (hT : okT n w) (hD : isD G n w T) (hC : isC G M) (hc : CHT G n w M) (hf : 0 ≤ f ∧ f ≤ t ∧ t ≤ n) (h : ∀ M' : ev_M, fr [] [19] M M' → Q ((nfam G T m f t : Nat) : Int) M') : m43 m f t M Q := by
  have hn := hT.1
  have gc := hG.1
  have vo := vT_ord hG hT hD
  refine b43 ?_
  refine lp (σ := Int × ev_M) (n := gn G) (c := fun r s => c43_6 m f t s.1 r s.2 Q) (P := fun r s => fr [] [19] M s.2 ∧ s.1 = ((sumN (fun q => if (q : Int) < gn G ∧ gl G q = m then rw' G (vT T) q t (gz G q).toNat (gz G q).toNat f else 0) r.toNat : Nat) : Int) ∧ s.1 ≤ 14641 * r) ?_ ?_ (r := 0) (s := (0, M)) (by omega) gc.1 ⟨fr.refl, rfl, by omega⟩
  · rintro r ⟨a, M1⟩ r0 r1 ⟨hf1, ha, hle⟩ ih
    dsimp only at hf1 ha hle ih ⊢
    have hC1 : isC G M1 := hC.of (hf1.1 3 (by decide)) (hf1.2 2 (by decide)) (hf1.2 3 (by decide)) (hf1.2 4 (by decide))
    have e3 := hC1.1
    have el : aG_left M1 r.toNat = gl G r := (hC1.2 r r0 r1).1
    have enx : sumN (fun q => if (q : Int) < gn G ∧ gl G q = m then rw' G (vT T) q t (gz G q).toNat (gz G q).toNat f else 0) (r + 1).toNat = sumN (fun q => if (q : Int) < gn G ∧ gl G q = m then rw' G (vT T) q t (gz G q).toNat (gz G q).toNat f else 0) r.toNat + (if gl G r = m then rw' G (vT T) r t (gz G r).toNat (gz G r).toNat f else 0) := by
      rw [show (r + 1).toNat = r.toNat + 1 by omega]
      show _ + (if ((r.toNat : Nat) : Int) < gn G ∧ gl G ((r.toNat : Nat) : Int) = m then rw' G (vT T) ((r.toNat : Nat) : Int) t (gz G ((r.toNat : Nat) : Int)).toNat (gz G ((r.toNat : Nat) : Int)).toNat f else 0) = _
      rw [show ((r.toNat : Nat) : Int) = r by omega]
      by_cases e : gl G r = m
      · rw [if_pos ⟨r1, e⟩, if_pos e]
      · rw [if_neg (fun h => e h.2), if_neg e]
    have hb := rw_le (T := T) (f := f) (t := t) hG ⟨r0, r1⟩ (by omega) (by omega)
    have add : ∀ (x : Int) (M2 : ev_M), fr [] [19] M M2 → x = (((if gl G r = m then rw' G (vT T) r t (gz G r).toNat (gz G r).toNat f else 0) : Nat) : Int) → c43_46 m f t r a x M2 Q := by
      intro x M2 hf2 hx
      have hx2 : x ≤ 14641 := by
        rw [hx]; split <;> omega
      have hx0 : 0 ≤ x := by omega
      have ha0 : 0 ≤ a := by omega
      refine b43_46 ⟨⟨by omega, by omega⟩, ⟨by omega, by omega⟩, ih (a + x, M2) ⟨hf2, ?_, by show a + x ≤ 14641 * (r + 1); omega⟩⟩
      rw [enx]
      show a + x = _
      omega
    refine b43_6 ⟨fun g => absurd g (by omega), fun _ => ⟨⟨r0, by omega⟩, ?_⟩⟩
    rw [el]
    refine ⟨fun hne => add 0 M1 hf1 (by rw [if_neg hne]; rfl), fun heq => g_m42 hG hT hD hC1 (hc.of (hf1.2 12 (by decide))) ⟨r0, r1⟩ hf (fun M2 hf2 => add _ M2 (hf1.trans hf2) (by rw [if_pos (Decidable.of_not_not heq)]))⟩
  · rintro ⟨a, M1⟩ ⟨hf1, ha, -⟩
    dsimp only at hf1 ha ⊢
    have e3 : sG_count M1 = gn G := (hf1.1 3 (by decide)).trans hC.1
    refine b43_6 ⟨fun _ => ?_, fun g => absurd (by omega) g⟩
    have e : nfam G T m f t = sumN (fun q => if (q : Int) < gn G ∧ gl G q = m then rw' G (vT T) q t (gz G q).toNat (gz G q).toNat f else 0) (gn G).toNat := by
      unfold nfam
      rw [show (18634 : Nat) = 14 * 1331 from rfl, node_sum hG ⟨hf.1, hf.2.1, by omega⟩ vo 14]
      exact sumN_skip (by omega) (fun q q0 q1 => if_neg (fun h => by omega))
    rw [ha, ← e]
    exact h M1 hf1
end CFA
