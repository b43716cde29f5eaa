/-! The model: counting families, trees of a family, of a node -/
section MC
variable {G : gT} {n : Int} {w : Int → Int} {T : Int → Int → Int → Bool} {m f t : Int} {M M' : ev_M}
theorem itR.of {M2 : ev_M} (h : itR G m f t M) (hf : fr [] [40, 41, 42, 43] M M2) : itR G m f t M2 := by
  unfold itR at h ⊢
  simp only [sM_maker, sM_from, sM_to, sM_rule, sM_one, sM_two, sM_three] at h ⊢
  rw [hf.1 18 (by decide), hf.1 19 (by decide), hf.1 20 (by decide), hf.1 21 (by decide), hf.1 22 (by decide), hf.1 23 (by decide), hf.1 24 (by decide)]
  exact h
/-- families, the loop -/
theorem g_fam {Q : Int → ev_M → Prop} {nd : Int} (hG : okG G) (hM : isM G M) (hP : PAR G n w M) (hD : isD G n w T) (hm : 0 ≤ m ∧ m < 6) (hf : 0 ≤ f ∧ f ≤ t ∧ t ≤ 10) (hnd : nd = 121 * m + 11 * f + t) (h : ∀ M' : ev_M, fr itS0 [] M M' → Q ((nfam G T m f t : Nat) : Int) M') : m112 nd M (fun w3 M3 => c133_53 0 w3 M3 Q) := by
  refine famS (σ := Int) (s := 0) (m := m) (f := f) (t := t) (c := fun s w3 M3 => c133_53 s w3 M3 Q) (P := fun s k M1 => fr itS0 [] M M1 ∧ s = ((sumN (wt G (vT T) m f t) k.toNat : Nat) : Int) ∧ s ≤ k ∧ 0 ≤ k) hG hD hm.1 hf hnd (by omega) (fun s k M1 hp => ⟨hM.of (hp.1.1 11 (by decide)) (hp.1.2 31 (by decide)) (hp.1.2 32 (by decide)) (hp.1.2 33 (by decide)), hP.of (hp.1.2 39 (by decide))⟩) (fun s k M1 M2 hf2 hp => ⟨hp.1.trans hf2, hp.2⟩) (fun s k k' M1 k0 hk hno hp => ⟨hp.1, by rw [wt_skip onT_vT k0 hk hno]; exact hp.2.1, by have := hp.2.2.1; omega, by omega⟩) ?_ ?_ ⟨fr.refl, rfl, by omega, by omega⟩
  · intro s M1 hI hr hF hcr hcc hp nxt
    refine b133_53 ⟨fun g => absurd g (by decide), fun _ => ⟨⟨by omega, by omega⟩, nxt (s + 1) M1 hI rfl ⟨hp.1, ?_, by omega, by omega⟩⟩⟩
    rw [hcc, wt_step hG hf hF.1, pw_vT hG hF]
    have := hp.2.1
    rw [hcc] at this
    omega
  · intro s M1 hp
    refine b133_53 ⟨fun _ => b133_73 ?_, fun g => absurd rfl g⟩
    rw [hp.2.1]
    exact h M1 hp.1
/-! Trees -/
/-- the weights out of the counts of the nodes -/
def cv (T : Int → Int → Int → Bool) (κ : Int → Int → Int → Nat) (x p e : Int) : Nat := if x < 6 then κ x p e else (T x p e).toNat
/-- the model's counts -/
def kM (M : ev_M) (x p e : Int) : Nat := if (0 ≤ x ∧ x < 6) ∧ (0 ≤ p ∧ p ≤ 10) ∧ (0 ≤ e ∧ e ≤ 10) then (aM_counts M (121 * x + 11 * p + e).toNat).toNat else 0
def cR (M : ev_M) : Prop := ∀ k : Nat, k < 726 → 0 ≤ aM_counts M k ∧ aM_counts M k ≤ 1000000000
theorem capm {a b : Nat} : min (min a 1000000000 * b) 1000000000 = min (a * b) 1000000000 := by
  by_cases h : a ≤ 1000000000
  · rw [Nat.min_eq_left h]
  · rw [Nat.min_eq_right (show 1000000000 ≤ a by omega)]
    cases b with
    | zero => rfl
    | succ b =>
      have h1 : 1000000000 * 1 ≤ 1000000000 * (b + 1) := Nat.mul_le_mul_left _ (by omega)
      have h2 : 1000000000 * (b + 1) ≤ a * (b + 1) := Nat.mul_le_mul_right _ (by omega)
      rw [Nat.min_eq_right (by omega), Nat.min_eq_right (by omega)]
/-- the product of the first k factors of a family -/
def pp (G : gT) (v : Int → Int → Int → Nat) (f t r a b c : Int) : Nat → Nat
  | 0 => 1
  | k + 1 => pp G v f t r a b c k * v (gs G r (k : Int)) (pf f a b c (k : Int)) (pt a b c t (k : Int))
theorem pp_pw {v : Int → Int → Int → Nat} (hG : okG G) {r a b c : Int} (hF : isF G T m f t r a b c) : pp G v f t r a b c (gz G r).toNat = pw G v f t r a b c := by
  have g := (hG.2 r hF.1.1.1 hF.1.1.2).2.1
  obtain ⟨hv, h0, -⟩ := hF
  unfold pw
  rcases (by omega : gz G r = 0 ∨ gz G r = 1 ∨ gz G r = 2 ∨ gz G r = 3 ∨ gz G r = 4) with z | z | z | z | z
  · rw [z, if_neg (by omega), if_pos (h0 z), if_neg (by omega), if_neg (by omega), if_neg (by omega)]; rfl
  · rw [z, if_pos (by omega), if_neg (by omega), if_neg (by omega), if_neg (by omega)]
    show 1 * v (gs G r 0) f a = v (gs G r 0) f a * (1 * (1 * 1))
    omega
  · rw [z, if_pos (by omega), if_pos (by omega), if_neg (by omega), if_neg (by omega)]
    show 1 * v (gs G r 0) f a * v (gs G r 1) a b = v (gs G r 0) f a * (v (gs G r 1) a b * (1 * 1))
    rw [Nat.one_mul, Nat.mul_one]
  · rw [z, if_pos (by omega), if_pos (by omega), if_pos (by omega), if_neg (by omega)]
    show 1 * v (gs G r 0) f a * v (gs G r 1) a b * v (gs G r 2) b c = v (gs G r 0) f a * (v (gs G r 1) a b * (v (gs G r 2) b c * 1))
    rw [Nat.one_mul, Nat.mul_one, Nat.mul_assoc]
  · rw [z, if_pos (by omega), if_pos (by omega), if_pos (by omega), if_pos (by omega)]
    show 1 * v (gs G r 0) f a * v (gs G r 1) a b * v (gs G r 2) b c * v (gs G r 3) c t = v (gs G r 0) f a * (v (gs G r 1) a b * (v (gs G r 2) b c * v (gs G r 3) c t))
    rw [Nat.one_mul, Nat.mul_assoc, Nat.mul_assoc]
/-- a maker's node is done -/
def dn (M : ev_M) (x p e : Int) : Prop := aM_done M (121 * x + 11 * p + e).toNat = 1
theorem g_m116 {Q : Int → ev_M → Prop} (hG : okG G) (hM : isM G M) (hD : isD G n w T) (hf : 0 ≤ f ∧ f ≤ t ∧ t ≤ 10) (hI : itR G m f t M) (hr : 0 ≤ sM_rule M) (hF : isF G T m f t (sM_rule M) (sM_one M) (sM_two M) (sM_three M)) (hd : dR M) (hc : cR M)
    (h1 : (∀ k : Int, 0 ≤ k → k < gz G (sM_rule M) → gs G (sM_rule M) k ≤ 5 → dn M (gs G (sM_rule M) k) (pf f (sM_one M) (sM_two M) (sM_three M) k) (pt (sM_one M) (sM_two M) (sM_three M) t k)) → Q ((min (pw G (cv T (kM M)) f t (sM_rule M) (sM_one M) (sM_two M) (sM_three M)) 1000000000 : Nat) : Int) M)
    (h0 : (∃ k : Int, 0 ≤ k ∧ k < gz G (sM_rule M) ∧ gs G (sM_rule M) k ≤ 5 ∧ ¬ dn M (gs G (sM_rule M) k) (pf f (sM_one M) (sM_two M) (sM_three M) k) (pt (sM_one M) (sM_two M) (sM_three M) t k)) → Q (-1) M) : m116 M Q := by
  have r1 := hF.1.1.2
  have gc := hG.1
  have hg := hG.2 _ hr r1
  have hv := hF.1.rng hG hf
  have esz : aM_sizes M (sM_rule M).toNat = gz G (sM_rule M) := (hM.2 _ hr r1).2.1
  have hkT := ((isF_iff hG).mp hF).2.2
  refine b116 ?_
  refine lp (σ := Int) (n := gz G (sM_rule M)) (c := fun k p => c116_4 p k M Q) (P := fun k p => p = ((min (pp G (cv T (kM M)) f t (sM_rule M) (sM_one M) (sM_two M) (sM_three M) k.toNat) 1000000000 : Nat) : Int) ∧ ∀ k' : Int, 0 ≤ k' → k' < k → gs G (sM_rule M) k' ≤ 5 → dn M (gs G (sM_rule M) k') (pf f (sM_one M) (sM_two M) (sM_three M) k') (pt (sM_one M) (sM_two M) (sM_three M) t k')) ?_ ?_ (by omega) hg.2.1.1 ⟨rfl, fun k' a1 a2 => by omega⟩
  · rintro k p k0 k1 ⟨hp, hdn⟩ ih
    have hsy := hg.2.2 k k0 k1
    have p1 := pf_rng (f := f) (k := k) (by omega) hv.2.1 hv.2.2.1 hv.2.2.2.1
    have p2 := pt_rng (t := t) (k := k) (by omega) hv.2.1 hv.2.2.1 hv.2.2.2.1
    have enx : pp G (cv T (kM M)) f t (sM_rule M) (sM_one M) (sM_two M) (sM_three M) (k + 1).toNat = pp G (cv T (kM M)) f t (sM_rule M) (sM_one M) (sM_two M) (sM_three M) k.toNat * cv T (kM M) (gs G (sM_rule M) k) (pf f (sM_one M) (sM_two M) (sM_three M) k) (pt (sM_one M) (sM_two M) (sM_three M) t k) := by
      rw [show (k + 1).toNat = k.toNat + 1 by omega]
      show _ * cv T (kM M) (gs G (sM_rule M) ((k.toNat : Nat) : Int)) (pf f (sM_one M) (sM_two M) (sM_three M) ((k.toNat : Nat) : Int)) (pt (sM_one M) (sM_two M) (sM_three M) t ((k.toNat : Nat) : Int)) = _
      rw [show ((k.toNat : Nat) : Int) = k by omega]
    have ple : 0 ≤ p ∧ p ≤ 1000000000 := by
      rw [hp]
      have := Nat.min_le_right (pp G (cv T (kM M)) f t (sM_rule M) (sM_one M) (sM_two M) (sM_three M) k.toNat) 1000000000
      omega
    refine b116_4 ⟨⟨hr, by omega⟩, fun g => absurd g (by rw [esz]; omega), fun _ => g_m113 hG hM hf hI hr ⟨k0, k1⟩ ?_⟩
    by_cases e5 : gs G (sM_rule M) k ≤ 5
    · rw [if_pos e5]
      generalize hpe : pf f (sM_one M) (sM_two M) (sM_three M) k = pv at *
      generalize hqe : pt (sM_one M) (sM_two M) (sM_three M) t k = qv at *
      have ecv : cv T (kM M) (gs G (sM_rule M) k) pv qv = (aM_counts M (121 * gs G (sM_rule M) k + 11 * pv + qv).toNat).toNat := by
        unfold cv kM
        rw [if_pos (by omega), if_pos ⟨by omega, p1, p2⟩]
      have hcr := hc (121 * gs G (sM_rule M) k + 11 * pv + qv).toNat (by omega)
      have on : aM_done M (121 * gs G (sM_rule M) k + 11 * pv + qv).toNat = 1 → c116_43 p k (121 * gs G (sM_rule M) k + 11 * pv + qv) M Q := by
        intro hdo
        have hmul : p * aM_counts M (121 * gs G (sM_rule M) k + 11 * pv + qv).toNat ≤ 1000000000 * 1000000000 := by
          have h1 := Int.mul_le_mul ple.2 hcr.2 hcr.1 (by omega : (0 : Int) ≤ 1000000000)
          exact h1
        have hmul0 : 0 ≤ p * aM_counts M (121 * gs G (sM_rule M) k + 11 * pv + qv).toNat := Int.mul_nonneg ple.1 hcr.1
        have hiL : tm_iL (p * aM_counts M (121 * gs G (sM_rule M) k + 11 * pv + qv).toNat) := ⟨by omega, by omega⟩
        obtain ⟨A, hA⟩ : ∃ A : Nat, A = min (pp G (cv T (kM M)) f t (sM_rule M) (sM_one M) (sM_two M) (sM_three M) k.toNat) 1000000000 * cv T (kM M) (gs G (sM_rule M) k) pv qv := ⟨_, rfl⟩
        have ev : p * aM_counts M (121 * gs G (sM_rule M) k + 11 * pv + qv).toNat = (A : Int) := by
          rw [hA, ecv, Int.natCast_mul, ← hp]
          congr 1
          omega
        have hcap := capm (a := pp G (cv T (kM M)) f t (sM_rule M) (sM_one M) (sM_two M) (sM_three M) k.toNat) (b := cv T (kM M) (gs G (sM_rule M) k) pv qv)
        rw [← hA] at hcap
        have nx : ∀ x : Int, x = ((min A 1000000000 : Nat) : Int) → c116_83 k x M Q := by
          intro x hx
          refine b116_83 ⟨⟨by omega, by omega⟩, ih x ⟨by rw [hx, enx, hcap], fun k' a1 a2 a3 => ?_⟩⟩
          by_cases e : k' = k
          · subst e
            rw [hpe, hqe]
            exact hdo
          · exact hdn k' a1 (by omega) a3
        refine b116_43 ⟨fun _ => ⟨⟨by omega, by omega⟩, hiL, fun hle => ⟨⟨by omega, by omega⟩, hiL, nx _ ?_⟩, fun hgt => nx _ ?_⟩, fun g => absurd (by omega) g⟩
        · rw [ev] at hle ⊢
          rw [Nat.min_eq_left (by omega)]
        · rw [ev] at hgt
          rw [Nat.min_eq_right (by omega)]; rfl
      refine ⟨fun g => absurd g (by omega), fun _ => ⟨⟨by omega, by omega⟩, fun hne => on ?_, fun hze => h0 ⟨k, k0, k1, e5, ?_⟩⟩⟩
      · rcases hd (121 * gs G (sM_rule M) k + 11 * pv + qv).toNat (by omega) with e | e
        · exact absurd e hne
        · exact e
      · rw [hpe, hqe]
        intro hd1
        have hd1' : aM_done M (121 * gs G (sM_rule M) k + 11 * pv + qv).toNat = 1 := hd1
        have := Decidable.of_not_not hze
        omega
    · rw [if_neg e5]
      have ecv : cv T (kM M) (gs G (sM_rule M) k) (pf f (sM_one M) (sM_two M) (sM_three M) k) (pt (sM_one M) (sM_two M) (sM_three M) t k) = 1 := by
        unfold cv
        rw [if_neg (by omega), hkT k k0 k1]; rfl
      refine ⟨fun _ => b116_43 ⟨fun g => absurd g (by omega), fun _ => b116_83 ⟨⟨by omega, by omega⟩, ih p ⟨by rw [enx, ecv, Nat.mul_one]; exact hp, fun k' a1 a2 a3 => ?_⟩⟩⟩, fun g => absurd (by omega) g⟩
      by_cases e : k' = k
      · subst e; exact absurd a3 e5
      · exact hdn k' a1 (by omega) a3
  · rintro p ⟨hp, hdn⟩
    refine b116_4 ⟨⟨hr, by omega⟩, fun _ => ?_, fun g => absurd (by rw [esz]; omega) g⟩
    rw [hp, pp_pw hG hF]
    exact h1 hdn
end MC
