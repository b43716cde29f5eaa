/-! The first tree of a node -/
/-- the lengths of the parts of a family, summed -/
def flS (G : gT) (fl : Int → Int → Int → Int) (r : Int) (u : Nat → Int) : Nat → Int
  | 0 => 0
  | d + 1 => flS G fl r u d + fl (gs G r (d : Int)) (u d) (u (d + 1))
/-- L is the length of the first tree of the node -/
def flE (G : gT) (T : Int → Int → Int → Bool) (v : Int → Int → Int → Nat) (fl : Int → Int → Int → Int) (m f t L : Int) : Prop := ∃ (r : Int) (u : Nat → Int), (0 ≤ r ∧ r < gn G) ∧ gl G r = m ∧ cuts G T r f t u ∧ rkB G v r u (gz G r).toNat ≠ 0 ∧ sumN (wt G v m f t) (cdu G r t u).toNat = 0 ∧ L = 1 + flS G fl r u (gz G r).toNat
section FE2
variable {G : gT} {n : Int} {w : Int → Int} {T : Int → Int → Int → Bool} {v v' : Int → Int → Int → Nat} {fl fl' : Int → Int → Int → Int} {m f t r : Int} {u : Nat → Int}
theorem rkB_ne : ∀ d : Nat, rkB G v r u d ≠ 0 ↔ ∀ k : Nat, k < d → v (gs G r (k : Int)) (u k) (u (k + 1)) ≠ 0 := by
  intro d
  induction d with
  | zero => exact ⟨fun _ k hk => by omega, fun _ => by show (1 : Nat) ≠ 0; omega⟩
  | succ d ih =>
    constructor
    · intro h k hk
      have h1 : rkB G v r u d * v (gs G r (d : Int)) (u d) (u (d + 1)) ≠ 0 := h
      by_cases e : k = d
      · subst e
        exact fun h0 => h1 (by rw [h0, Nat.mul_zero])
      · exact ih.mp (fun h0 => h1 (by rw [h0, Nat.zero_mul])) k (by omega)
    · intro h
      exact Nat.mul_ne_zero (ih.mpr (fun k hk => h k (by omega))) (h d (by omega))
theorem rkB_congr : ∀ d : Nat, (∀ k : Nat, k < d → v (gs G r (k : Int)) (u k) (u (k + 1)) = v' (gs G r (k : Int)) (u k) (u (k + 1))) → rkB G v r u d = rkB G v' r u d := by
  intro d
  induction d with
  | zero => intro _; rfl
  | succ d ih =>
    intro h
    show rkB G v r u d * _ = rkB G v' r u d * _
    rw [ih (fun k hk => h k (by omega)), h d (by omega)]
theorem flS_congr : ∀ d : Nat, (∀ k : Nat, k < d → fl (gs G r (k : Int)) (u k) (u (k + 1)) = fl' (gs G r (k : Int)) (u k) (u (k + 1))) → flS G fl r u d = flS G fl' r u d := by
  intro d
  induction d with
  | zero => intro _; rfl
  | succ d ih =>
    intro h
    show flS G fl r u d + _ = flS G fl' r u d + _
    rw [ih (fun k hk => h k (by omega)), h d (by omega)]
/-- a family by its cuts has its weight -/
theorem rkB_pw (hG : okG G) (hT : okT n w) (hD : isD G n w T) (hr : 0 ≤ r ∧ r < gn G) (hl : gl G r = m) (h : cuts G T r f t u) : pw G v f t r (if 2 ≤ gz G r then u 1 else t) (if 3 ≤ gz G r then u 2 else t) (if 4 ≤ gz G r then u 3 else t) = rkB G v r u (gz G r).toNat := by
  obtain ⟨hF, hpp⟩ := isF_of hG hT hD hr hl h
  rw [← pp_pw hG hF]
  have key : ∀ k : Nat, k ≤ (gz G r).toNat → pp G v f t r (if 2 ≤ gz G r then u 1 else t) (if 3 ≤ gz G r then u 2 else t) (if 4 ≤ gz G r then u 3 else t) k = rkB G v r u k := by
    intro k
    induction k with
    | zero => intro _; rfl
    | succ k ih =>
      intro hk
      have h2 := hpp (k : Int) (by omega) (by omega)
      rw [show ((k : Int)).toNat = k by omega] at h2
      show pp G v f t r _ _ _ k * v (gs G r (k : Int)) (pf f _ _ _ (k : Int)) (pt _ _ _ t (k : Int)) = rkB G v r u k * _
      rw [ih (by omega), h2.1, h2.2]
  exact key _ (Nat.le_refl _)
theorem kid_cuts (hG : okG G) (hT : okT n w) (hD : isD G n w T) (hr : 0 ≤ r ∧ r < gn G) (hl : gl G r = m) (h : cuts G T r f t u) {k : Nat} (hk : k < (gz G r).toNat) (h5 : gs G r (k : Int) ≤ 5) : kid G T m f t (gs G r (k : Int)) (u k) (u (k + 1)) := by
  obtain ⟨hF, hpp⟩ := isF_of hG hT hD hr hl h
  have h2 := hpp (k : Int) (by omega) (by omega)
  rw [show ((k : Int)).toNat = k by omega] at h2
  exact ⟨r, _, _, _, (k : Int), hF, by omega, by omega, h5, rfl, h2.1.symm, h2.2.symm⟩
/-- it reads the makers of the families alone -/
theorem flE.congr (hG : okG G) (hT : okT n w) (hD : isD G n w T) {κ κ' : Int → Int → Int → Nat} {L : Int} (h1 : onT T (cv T κ)) (h2 : onT T (cv T κ')) (hk : ∀ x p e : Int, kid G T m f t x p e → κ x p e = κ' x p e) (hf : ∀ x p e : Int, kid G T m f t x p e → fl x p e = fl' x p e) (hw : ∀ x p e : Int, 6 ≤ x → fl x p e = fl' x p e) (h : flE G T (cv T κ) fl m f t L) : flE G T (cv T κ') fl' m f t L := by
  obtain ⟨r, u, hr, hl, hc, hb, hs, hL⟩ := h
  refine ⟨r, u, hr, hl, hc, ?_, ?_, ?_⟩
  · rw [← rkB_congr (v := cv T κ) (v' := cv T κ') _ (fun k hlt => ?_)]
    · exact hb
    · unfold cv
      by_cases e6 : gs G r (k : Int) < 6
      · rw [if_pos e6, if_pos e6]
        exact hk _ _ _ (kid_cuts hG hT hD hr hl hc hlt (by omega))
      · rw [if_neg e6, if_neg e6]
  · rw [← wt_congr hG h1 h2 hk]; exact hs
  · rw [hL, flS_congr (fl := fl) (fl' := fl') _ (fun k hlt => ?_)]
    by_cases e6 : gs G r (k : Int) < 6
    · exact hf _ _ _ (kid_cuts hG hT hD hr hl hc hlt (by omega))
    · exact hw _ _ _ (by omega)
/-- the first row of parts has its cuts -/
theorem sfR_cuts {z : Nat} : ∀ (k : Nat) (p L : Int), k ≤ z → sfR G v fl r t z k p L → rw' G v r t z k p ≠ 0 → ∃ u : Nat → Int, u (z - k) = p ∧ u z = t ∧ (∀ d : Nat, z - k ≤ d → d < z → (0 ≤ u (d + 1) ∧ u (d + 1) ≤ 10) ∧ v (gs G r (d : Int)) (u d) (u (d + 1)) ≠ 0 ∧ ∀ e : Int, 0 ≤ e → e < u (d + 1) → v (gs G r (d : Int)) (u d) e * rw' G v r t z (z - (d + 1)) e = 0) ∧ flS G fl r u z - flS G fl r u (z - k) = L := by
  intro k
  induction k with
  | zero =>
    intro p L _ hL hR
    have hL : L = 0 := hL
    have hp : p = t := by
      refine Decidable.byContradiction (fun hne => hR ?_)
      exact if_neg hne
    exact ⟨fun _ => p, rfl, hp, fun d d0 d1 => by omega, by rw [hL, Nat.sub_zero]; omega⟩
  | succ k ih =>
    rintro p L hk ⟨e, L', a1, a2, a3, a4, a5⟩ _
    have hR2 : rw' G v r t z k e ≠ 0 := fun h0 => a1 (by rw [h0, Nat.mul_zero])
    obtain ⟨u', b1, b2, b3, b4⟩ := ih e L' (by omega) a4 hR2
    obtain ⟨u, hu⟩ : ∃ u : Nat → Int, ∀ d, u d = if d = z - (k + 1) then p else u' d := ⟨_, fun _ => rfl⟩
    have hd0 : z - (k + 1) + 1 = z - k := by omega
    have hsame : ∀ d : Nat, z - k ≤ d → u d = u' d := fun d hd => by rw [hu, if_neg (by omega)]
    have hS : ∀ d : Nat, z - k ≤ d → flS G fl r u d - flS G fl r u (z - k) = flS G fl r u' d - flS G fl r u' (z - k) := by
      intro d
      induction d with
      | zero => intro hd; rw [show z - k = 0 by omega]; omega
      | succ d ihd =>
        intro hd
        by_cases e2 : d + 1 = z - k
        · rw [e2]; omega
        · have h3 := ihd (by omega)
          show flS G fl r u d + fl (gs G r (d : Int)) (u d) (u (d + 1)) - _ = flS G fl r u' d + fl (gs G r (d : Int)) (u' d) (u' (d + 1)) - _
          rw [hsame d (by omega), hsame (d + 1) (by omega)]
          omega
    refine ⟨u, by rw [hu, if_pos rfl], by rw [hsame z (by omega)]; exact b2, fun d d0 d1 => ?_, ?_⟩
    · by_cases e2 : d = z - (k + 1)
      · subst e2
        rw [hu (z - (k + 1)), if_pos rfl, hd0, hsame (z - k) (Nat.le_refl _), b1, show z - (z - k) = k by omega]
        exact ⟨a2, fun h0 => a1 (by rw [h0, Nat.zero_mul]), fun e' e0 e1 => a3 e' e0 e1⟩
      · rw [hsame d (by omega), hsame (d + 1) (by omega)]
        exact b3 d (by omega) d1
    · have h4 := hS z (by omega)
      have h5 : flS G fl r u (z - k) = flS G fl r u (z - (k + 1)) + fl (gs G r ((z - (k + 1) : Nat) : Int)) p e := by
        rw [← hd0]
        show flS G fl r u (z - (k + 1)) + fl (gs G r ((z - (k + 1) : Nat) : Int)) (u (z - (k + 1))) (u (z - (k + 1) + 1)) = _
        rw [hu (z - (k + 1)), if_pos rfl, hd0, hsame (z - k) (Nat.le_refl _), b1]
      omega
/-- the class's first length is the length of the first tree -/
theorem ffR.flE (hG : okG G) (hT : okT n w) (hD : isD G n w T) (hon : onT T v) (hf : 0 ≤ f ∧ f ≤ t ∧ t ≤ 10) {L : Int} (h : ffR G v fl m f t L) : flE G T v fl m f t L := by
  obtain ⟨r, L', hr, hl, hne, hz, hs, hL⟩ := h
  have hv : ∀ x p e : Int, v x p e ≠ 0 → p ≤ e := fun x p e hne => (((hD _ _ _).mp (hon x p e hne)).rng hG hT).2.2.1
  have g := (hG.2 r hr.1 hr.2).2.1
  obtain ⟨u, u0, uz, hd, hS⟩ := sfR_cuts (z := (gz G r).toNat) (gz G r).toNat f L' (Nat.le_refl _) hs hne
  rw [Nat.sub_self] at u0 hd hS
  have hc : cuts G T r f t u := ⟨u0, uz, fun k hk => hon _ _ _ (hd k (by omega) hk).2.1⟩
  refine ⟨r, u, hr, hl, hc, (rkB_ne _).mpr (fun k hk => (hd k (by omega) hk).2.1), ?_, ?_⟩
  · have en : ((r.toNat : Nat) : Int) = r := by omega
    have hrk := rk_code (m := m) (v := v) (q := r.toNat) hG hf hv (by rw [en]; exact hr.2) (by rw [en]; exact hl) (u := u) u0 (by rw [en]; exact uz) (by
      rw [en]
      intro d hdz
      cases d with
      | zero => rw [u0]; omega
      | succ d => exact (hd d (by omega) (by omega)).1)
    rw [en] at hrk
    rw [hrk]
    have z1 : rsum G v m f t r.toNat = 0 := by
      refine sumN_zero (fun q hq => ?_)
      by_cases e : (q : Int) < gn G ∧ gl G q = m
      · rw [if_pos e]; exact hz q (by omega) (by omega) e.2
      · exact if_neg e
    have z2 : ∀ d : Nat, d ≤ (gz G r).toNat → rk G v r t (gz G r).toNat u d = 0 := by
      intro d
      induction d with
      | zero => intro _; rfl
      | succ d ih =>
        intro hdz
        show rk G v r t (gz G r).toNat u d + rkB G v r u d * sumN (fun e => v (gs G r (d : Int)) (u d) (e : Int) * rw' G v r t (gz G r).toNat ((gz G r).toNat - (d + 1)) (e : Int)) (u (d + 1)).toNat = 0
        rw [ih (by omega), sumN_zero (fun e he => (hd d (by omega) (by omega)).2.2 (e : Int) (by omega) (by omega)), Nat.mul_zero]
    rw [z1, z2 _ (Nat.le_refl _)]
  · rw [hL, ← hS]
    show 1 + (_ - 0) = _
    omega
end FE2
