/-! Where a family stands among all -/
section RK
variable {G : gT} {n : Int} {w : Int → Int} {T : Int → Int → Int → Bool} {v : Int → Int → Int → Nat} {fl : Int → Int → Int → Int} {m f t r : Int}
theorem wt_z0 (hG : okG G) (hf : 0 ≤ f ∧ f ≤ t ∧ t ≤ 10) {q : Nat} (hr : (q : Int) < gn G) (hl : gl G q = m) (z : gz G q = 0) {a b c : Nat} (ha : a < 11) (hb : b < 11) (hc : c < 11) : wt G v m f t (q * 1331 + (a * 121 + (b * 11 + c))) = if (a : Int) = t ∧ (b : Int) = t ∧ (c : Int) = t then (if f = t then 1 else 0) else 0 := by
  rw [wt_cd hG hf ha hb hc]
  by_cases h : (a : Int) = t ∧ (b : Int) = t ∧ (c : Int) = t
  · rw [if_pos h, if_pos ⟨⟨by omega, hr⟩, hl, fun _ => h.1, fun h => by omega, fun _ => h.2.1, fun h => by omega, fun _ => h.2.2, fun h => by omega⟩]
    unfold pw
    rw [if_neg (show ¬ 0 < gz G (q : Int) by omega), if_neg (show ¬ 1 < gz G (q : Int) by omega), if_neg (show ¬ 2 < gz G (q : Int) by omega), if_neg (show ¬ 3 < gz G (q : Int) by omega)]
    simp
  · rw [if_neg h, if_neg (fun hvt => h ⟨hvt.2.2.1 (by omega), hvt.2.2.2.2.1 (by omega), hvt.2.2.2.2.2.2.1 (by omega)⟩)]
theorem wt_z1 (hG : okG G) (hf : 0 ≤ f ∧ f ≤ t ∧ t ≤ 10) {q : Nat} (hr : (q : Int) < gn G) (hl : gl G q = m) (z : gz G q = 1) {a b c : Nat} (ha : a < 11) (hb : b < 11) (hc : c < 11) : wt G v m f t (q * 1331 + (a * 121 + (b * 11 + c))) = if (a : Int) = t ∧ (b : Int) = t ∧ (c : Int) = t then v (gs G q 0) f a else 0 := by
  rw [wt_cd hG hf ha hb hc]
  by_cases h : (a : Int) = t ∧ (b : Int) = t ∧ (c : Int) = t
  · rw [if_pos h, if_pos ⟨⟨by omega, hr⟩, hl, fun _ => h.1, fun h => by omega, fun _ => h.2.1, fun h => by omega, fun _ => h.2.2, fun h => by omega⟩]
    unfold pw
    rw [if_pos (by omega), if_neg (by omega), if_neg (by omega), if_neg (by omega)]
    simp
  · rw [if_neg h, if_neg (fun hvt => h ⟨hvt.2.2.1 (by omega), hvt.2.2.2.2.1 (by omega), hvt.2.2.2.2.2.2.1 (by omega)⟩)]
theorem wt_z2 (hG : okG G) (hf : 0 ≤ f ∧ f ≤ t ∧ t ≤ 10) (hv : ∀ x p e : Int, v x p e ≠ 0 → p ≤ e) {q : Nat} (hr : (q : Int) < gn G) (hl : gl G q = m) (z : gz G q = 2) {a b c : Nat} (ha : a < 11) (hb : b < 11) (hc : c < 11) : wt G v m f t (q * 1331 + (a * 121 + (b * 11 + c))) = if (b : Int) = t ∧ (c : Int) = t then v (gs G q 0) f a * v (gs G q 1) a t else 0 := by
  have hv0 : ∀ x p e : Int, ¬ p ≤ e → v x p e = 0 := fun x p e h => Decidable.byContradiction (fun hn => h (hv x p e hn))
  rw [wt_cd hG hf ha hb hc]
  by_cases h : (b : Int) = t ∧ (c : Int) = t
  · rw [if_pos h]
    by_cases h2 : f ≤ a ∧ (a : Int) ≤ t
    · rw [if_pos ⟨⟨by omega, hr⟩, hl, fun h => by omega, fun _ => h2, fun _ => h.1, fun h => by omega, fun _ => h.2, fun h => by omega⟩]
      unfold pw
      rw [if_pos (by omega), if_pos (by omega), if_neg (by omega), if_neg (by omega), h.1]
      simp
    · rw [if_neg (fun hvt => h2 (hvt.2.2.2.1 (by omega)))]
      by_cases h3 : f ≤ a
      · rw [hv0 (gs G q 1) a t (by omega), Nat.mul_zero]
      · rw [hv0 (gs G q 0) f a h3, Nat.zero_mul]
  · rw [if_neg h, if_neg (fun hvt => h ⟨hvt.2.2.2.2.1 (by omega), hvt.2.2.2.2.2.2.1 (by omega)⟩)]
theorem wt_z3 (hG : okG G) (hf : 0 ≤ f ∧ f ≤ t ∧ t ≤ 10) (hv : ∀ x p e : Int, v x p e ≠ 0 → p ≤ e) {q : Nat} (hr : (q : Int) < gn G) (hl : gl G q = m) (z : gz G q = 3) {a b c : Nat} (ha : a < 11) (hb : b < 11) (hc : c < 11) : wt G v m f t (q * 1331 + (a * 121 + (b * 11 + c))) = if (c : Int) = t then v (gs G q 0) f a * (v (gs G q 1) a b * v (gs G q 2) b t) else 0 := by
  have hv0 : ∀ x p e : Int, ¬ p ≤ e → v x p e = 0 := fun x p e h => Decidable.byContradiction (fun hn => h (hv x p e hn))
  rw [wt_cd hG hf ha hb hc]
  by_cases h : (c : Int) = t
  · rw [if_pos h]
    by_cases h2 : f ≤ a ∧ (a : Int) ≤ b ∧ (b : Int) ≤ t
    · rw [if_pos ⟨⟨by omega, hr⟩, hl, fun h => by omega, fun _ => by omega, fun h => by omega, fun _ => by omega, fun _ => h, fun h => by omega⟩]
      unfold pw
      rw [if_pos (by omega), if_pos (by omega), if_pos (by omega), if_neg (by omega), h]
      simp
    · rw [if_neg (fun hvt => h2 ⟨(hvt.2.2.2.1 (by omega)).1, hvt.2.2.2.2.2.1 (by omega)⟩)]
      by_cases h3 : f ≤ a
      · by_cases h4 : (a : Int) ≤ b
        · rw [hv0 (gs G q 2) b t (by omega), Nat.mul_zero, Nat.mul_zero]
        · rw [hv0 (gs G q 1) a b h4, Nat.zero_mul, Nat.mul_zero]
      · rw [hv0 (gs G q 0) f a h3, Nat.zero_mul]
  · rw [if_neg h, if_neg (fun hvt => h (hvt.2.2.2.2.2.2.1 (by omega)))]
theorem wt_z4 (hG : okG G) (hf : 0 ≤ f ∧ f ≤ t ∧ t ≤ 10) (hv : ∀ x p e : Int, v x p e ≠ 0 → p ≤ e) {q : Nat} (hr : (q : Int) < gn G) (hl : gl G q = m) (z : gz G q = 4) {a b c : Nat} (ha : a < 11) (hb : b < 11) (hc : c < 11) : wt G v m f t (q * 1331 + (a * 121 + (b * 11 + c))) = v (gs G q 0) f a * (v (gs G q 1) a b * (v (gs G q 2) b c * v (gs G q 3) c t)) := by
  have hv0 : ∀ x p e : Int, ¬ p ≤ e → v x p e = 0 := fun x p e h => Decidable.byContradiction (fun hn => h (hv x p e hn))
  rw [wt_cd hG hf ha hb hc]
  by_cases h2 : f ≤ a ∧ (a : Int) ≤ b ∧ (b : Int) ≤ c ∧ (c : Int) ≤ t
  · rw [if_pos ⟨⟨by omega, hr⟩, hl, fun h => by omega, fun _ => by omega, fun h => by omega, fun _ => by omega, fun h => by omega, fun _ => by omega⟩]
    unfold pw
    rw [if_pos (by omega), if_pos (by omega), if_pos (by omega), if_pos (by omega)]
  · rw [if_neg (fun hvt => h2 ⟨(hvt.2.2.2.1 (by omega)).1, (hvt.2.2.2.2.2.1 (by omega)).1, hvt.2.2.2.2.2.2.2 (by omega)⟩)]
    by_cases h3 : f ≤ a
    · by_cases h4 : (a : Int) ≤ b
      · by_cases h5 : (b : Int) ≤ c
        · rw [hv0 (gs G q 3) c t (by omega), Nat.mul_zero, Nat.mul_zero, Nat.mul_zero]
        · rw [hv0 (gs G q 2) b c h5, Nat.zero_mul, Nat.mul_zero, Nat.mul_zero]
      · rw [hv0 (gs G q 1) a b h4, Nat.zero_mul, Nat.mul_zero]
    · rw [hv0 (gs G q 0) f a h3, Nat.zero_mul]
theorem sumidx {F : Nat → Nat} {a b c : Nat} (hb : b < 11) (hc : c < 11) : sumN F (a * 121 + (b * 11 + c)) = sumN (fun a' => sumN (fun b' => sumN (fun c' => F (a' * 121 + (b' * 11 + c'))) 11) 11) a + (sumN (fun b' => sumN (fun c' => F (a * 121 + (b' * 11 + c'))) 11) b + sumN (fun c' => F (a * 121 + (b * 11 + c'))) c) := by
  rw [sumN_app, sumN_app]
  congr 1
  · rw [sumN_prod]
    refine sumN_congr (fun a' ha' => ?_)
    rw [show (121 : Nat) = 11 * 11 from rfl, sumN_prod]
  · congr 1
    rw [sumN_prod]
/-- the product of the first d weights along the cuts -/
def rkB (G : gT) (v : Int → Int → Int → Nat) (r : Int) (u : Nat → Int) : Nat → Nat
  | 0 => 1
  | d + 1 => rkB G v r u d * v (gs G r (d : Int)) (u d) (u (d + 1))
/-- the trees of the rule's families before the cuts -/
def rk (G : gT) (v : Int → Int → Int → Nat) (r t : Int) (z : Nat) (u : Nat → Int) : Nat → Nat
  | 0 => 0
  | d + 1 => rk G v r t z u d + rkB G v r u d * sumN (fun e => v (gs G r (d : Int)) (u d) (e : Int) * rw' G v r t z (z - (d + 1)) (e : Int)) (u (d + 1)).toNat
/-- the code of the cuts -/
def cdu (G : gT) (r t : Int) (u : Nat → Int) : Int := (1331 * r + 121 * (if 2 ≤ gz G r then u 1 else t) + 11 * (if 3 ≤ gz G r then u 2 else t) + (if 4 ≤ gz G r then u 3 else t))
theorem rk_code (hG : okG G) (hf : 0 ≤ f ∧ f ≤ t ∧ t ≤ 10) (hv : ∀ x p e : Int, v x p e ≠ 0 → p ≤ e) {q : Nat} (hr : (q : Int) < gn G) (hl : gl G q = m) {u : Nat → Int} (h0 : u 0 = f) (hz : u (gz G q).toNat = t) (hu : ∀ d : Nat, d ≤ (gz G q).toNat → 0 ≤ u d ∧ u d ≤ 10) : sumN (wt G v m f t) (cdu G q t u).toNat = rsum G v m f t q + rk G v q t (gz G q).toNat u (gz G q).toNat := by
  have g := (hG.2 q (by omega) hr).2.1
  have tn : (t.toNat : Int) = t := by omega
  have t11 : t.toNat < 11 := by omega
  have last : ∀ (x p : Int) (N : Nat), N ≤ t.toNat → sumN (fun e => v x p (e : Int) * (if (e : Int) = t then 1 else 0)) N = 0 := fun x p N hN => sumN_zero (fun e he => by rw [if_neg (by omega), Nat.mul_zero])
  have last2 : ∀ (x : Int) (p : Int), sumN (fun e => v x p (e : Int) * (if (e : Int) = t then 1 else 0)) 11 = v x p t := by
    intro x p
    rw [sumN_one (a := t.toNat) (by omega) (fun k hk hne => by rw [if_neg (by omega), Nat.mul_zero]), if_pos tn, Nat.mul_one, tn]
  have pre : ∀ N : Nat, sumN (wt G v m f t) (q * 1331 + N) = rsum G v m f t q + sumN (fun k => wt G v m f t (q * 1331 + k)) N := by
    intro N
    rw [sumN_app, node_sum hG hf hv q]
    rfl
  have hcode : ∀ A B C : Int, (0 ≤ A ∧ A ≤ 10) → (0 ≤ B ∧ B ≤ 10) → (0 ≤ C ∧ C ≤ 10) → ((1331 * (q : Int) + 121 * A + 11 * B + C)).toNat = q * 1331 + (A.toNat * 121 + (B.toNat * 11 + C.toNat)) := by
    intro A B C a1 a2 a3
    omega
  unfold cdu
  rcases (by omega : gz G q = 0 ∨ gz G q = 1 ∨ gz G q = 2 ∨ gz G q = 3 ∨ gz G q = 4) with z | z | z | z | z
  · rw [if_neg (by omega), if_neg (by omega), if_neg (by omega), hcode t t t (by omega) (by omega) (by omega), pre, sumidx (by omega) (by omega), z]
    rw [sumN_zero (fun a ha => sumN_zero (fun b hb => sumN_zero (fun c hc => by rw [wt_z0 hG hf hr hl z (by omega) hb hc, if_neg (by omega)]))), sumN_zero (fun b hb => sumN_zero (fun c hc => by rw [wt_z0 hG hf hr hl z t11 (by omega) hc, if_neg (by omega)])), sumN_zero (fun c hc => by rw [wt_z0 hG hf hr hl z t11 t11 (by omega), if_neg (by omega)])]
    rfl
  · have hz1 : u 1 = t := by rw [z] at hz; exact hz
    rw [if_neg (by omega), if_neg (by omega), if_neg (by omega), hcode t t t (by omega) (by omega) (by omega), pre, sumidx (by omega) (by omega), z]
    rw [sumN_zero (fun a ha => sumN_zero (fun b hb => sumN_zero (fun c hc => by rw [wt_z1 hG hf hr hl z (by omega) hb hc, if_neg (by omega)]))), sumN_zero (fun b hb => sumN_zero (fun c hc => by rw [wt_z1 hG hf hr hl z t11 (by omega) hc, if_neg (by omega)])), sumN_zero (fun c hc => by rw [wt_z1 hG hf hr hl z t11 t11 (by omega), if_neg (by omega)])]
    show _ = _ + (0 + 1 * sumN (fun e => v (gs G q 0) (u 0) (e : Int) * (if (e : Int) = t then 1 else 0)) (u 1).toNat)
    rw [hz1, last _ _ _ (Nat.le_refl _)]
  · have hz2 : u 2 = t := by rw [z] at hz; exact hz
    have hu1 := hu 1 (by omega)
    have e1 : ((u 1).toNat : Int) = u 1 := by omega
    rw [if_pos (by omega), if_neg (by omega), if_neg (by omega), hcode (u 1) t t hu1 (by omega) (by omega), pre, sumidx (by omega) (by omega), z]
    have eA : ∀ a : Nat, a < (u 1).toNat → sumN (fun b' => sumN (fun c' => wt G v m f t (q * 1331 + (a * 121 + (b' * 11 + c')))) 11) 11 = v (gs G q 0) f a * v (gs G q 1) a t := by
      intro a ha
      rw [sumN_one (a := t.toNat) t11 (fun b hb hne => sumN_zero (fun c hc => by rw [wt_z2 hG hf hv hr hl z (by omega) hb hc, if_neg (by omega)])), sumN_one (a := t.toNat) t11 (fun c hc hne => by rw [wt_z2 hG hf hv hr hl z (by omega) t11 hc, if_neg (by omega)]), wt_z2 hG hf hv hr hl z (by omega) t11 t11, if_pos ⟨tn, tn⟩]
    have zb : sumN (fun b' => sumN (fun c' => wt G v m f t (q * 1331 + ((u 1).toNat * 121 + (b' * 11 + c')))) 11) t.toNat = 0 := sumN_zero (fun b hb => sumN_zero (fun c hc => by rw [wt_z2 hG hf hv hr hl z (by omega) (by omega) hc, if_neg (by omega)]))
    have zc : sumN (fun c' => wt G v m f t (q * 1331 + ((u 1).toNat * 121 + (t.toNat * 11 + c')))) t.toNat = 0 := sumN_zero (fun c hc => by rw [wt_z2 hG hf hv hr hl z (by omega) t11 (by omega), if_neg (by omega)])
    rw [sumN_congr eA, zb, zc]
    show _ = _ + (0 + 1 * sumN (fun e => v (gs G q 0) (u 0) (e : Int) * sumN (fun e2 => v (gs G q 1) (e : Int) (e2 : Int) * (if (e2 : Int) = t then 1 else 0)) 11) (u 1).toNat + 1 * v (gs G q 0) (u 0) (u 1) * sumN (fun e => v (gs G q 1) (u 1) (e : Int) * (if (e : Int) = t then 1 else 0)) (u 2).toNat)
    rw [hz2, last _ _ _ (Nat.le_refl _), h0, Nat.mul_zero]
    have : sumN (fun e => v (gs G q 0) f (e : Int) * sumN (fun e2 => v (gs G q 1) (e : Int) (e2 : Int) * (if (e2 : Int) = t then 1 else 0)) 11) (u 1).toNat = sumN (fun a : Nat => v (gs G q 0) f (a : Int) * v (gs G q 1) (a : Int) t) (u 1).toNat := sumN_congr (fun a ha => by rw [last2])
    rw [this]
    omega
  · have hz3 : u 3 = t := by rw [z] at hz; exact hz
    have hu1 := hu 1 (by omega)
    have hu2 := hu 2 (by omega)
    have e1 : ((u 1).toNat : Int) = u 1 := by omega
    have e2 : ((u 2).toNat : Int) = u 2 := by omega
    rw [if_pos (by omega), if_pos (by omega), if_neg (by omega), hcode (u 1) (u 2) t hu1 hu2 (by omega), pre, sumidx (by omega) (by omega), z]
    have eB : ∀ a b : Nat, a < 11 → b < 11 → sumN (fun c' => wt G v m f t (q * 1331 + (a * 121 + (b * 11 + c')))) 11 = v (gs G q 0) f a * (v (gs G q 1) a b * v (gs G q 2) b t) := by
      intro a b ha hb
      rw [sumN_one (a := t.toNat) t11 (fun c hc hne => by rw [wt_z3 hG hf hv hr hl z ha hb hc, if_neg (by omega)]), wt_z3 hG hf hv hr hl z ha hb t11, if_pos tn]
    have eA : ∀ a : Nat, a < (u 1).toNat → sumN (fun b' => sumN (fun c' => wt G v m f t (q * 1331 + (a * 121 + (b' * 11 + c')))) 11) 11 = v (gs G q 0) f a * sumN (fun b : Nat => v (gs G q 1) (a : Int) (b : Int) * v (gs G q 2) (b : Int) t) 11 := by
      intro a ha
      rw [← sumN_mul]
      exact sumN_congr (fun b hb => eB a b (by omega) hb)
    have eB2 : sumN (fun b' => sumN (fun c' => wt G v m f t (q * 1331 + ((u 1).toNat * 121 + (b' * 11 + c')))) 11) (u 2).toNat = v (gs G q 0) f (u 1) * sumN (fun b : Nat => v (gs G q 1) (u 1) (b : Int) * v (gs G q 2) (b : Int) t) (u 2).toNat := by
      rw [← sumN_mul]
      refine sumN_congr (fun b hb => ?_)
      rw [eB _ b (by omega) (by omega), e1]
    have zc : sumN (fun c' => wt G v m f t (q * 1331 + ((u 1).toNat * 121 + ((u 2).toNat * 11 + c')))) t.toNat = 0 := sumN_zero (fun c hc => by rw [wt_z3 hG hf hv hr hl z (by omega) (by omega) (by omega), if_neg (by omega)])
    rw [sumN_congr eA, eB2, zc]
    show _ = _ + (0 + 1 * sumN (fun e => v (gs G q 0) (u 0) (e : Int) * sumN (fun e2 => v (gs G q 1) (e : Int) (e2 : Int) * sumN (fun e3 => v (gs G q 2) (e2 : Int) (e3 : Int) * (if (e3 : Int) = t then 1 else 0)) 11) 11) (u 1).toNat + 1 * v (gs G q 0) (u 0) (u 1) * sumN (fun e => v (gs G q 1) (u 1) (e : Int) * sumN (fun e2 => v (gs G q 2) (e : Int) (e2 : Int) * (if (e2 : Int) = t then 1 else 0)) 11) (u 2).toNat + 1 * v (gs G q 0) (u 0) (u 1) * v (gs G q 1) (u 1) (u 2) * sumN (fun e => v (gs G q 2) (u 2) (e : Int) * (if (e : Int) = t then 1 else 0)) (u 3).toNat)
    rw [hz3, last _ _ _ (Nat.le_refl _), h0, Nat.mul_zero]
    have s1 : sumN (fun e => v (gs G q 0) f (e : Int) * sumN (fun e2 => v (gs G q 1) (e : Int) (e2 : Int) * sumN (fun e3 => v (gs G q 2) (e2 : Int) (e3 : Int) * (if (e3 : Int) = t then 1 else 0)) 11) 11) (u 1).toNat = sumN (fun a : Nat => v (gs G q 0) f (a : Int) * sumN (fun b : Nat => v (gs G q 1) (a : Int) (b : Int) * v (gs G q 2) (b : Int) t) 11) (u 1).toNat := by
      refine sumN_congr (fun a ha => ?_)
      congr 1
      exact sumN_congr (fun b hb => by rw [last2])
    have s2 : sumN (fun e => v (gs G q 1) (u 1) (e : Int) * sumN (fun e2 => v (gs G q 2) (e : Int) (e2 : Int) * (if (e2 : Int) = t then 1 else 0)) 11) (u 2).toNat = sumN (fun b : Nat => v (gs G q 1) (u 1) (b : Int) * v (gs G q 2) (b : Int) t) (u 2).toNat := sumN_congr (fun b hb => by rw [last2])
    rw [s1, s2]
    simp only [Nat.one_mul, Nat.zero_add, Nat.add_zero, Nat.mul_assoc, Nat.add_assoc]
  · have hz4 : u 4 = t := by rw [z] at hz; exact hz
    have hu1 := hu 1 (by omega)
    have hu2 := hu 2 (by omega)
    have hu3 := hu 3 (by omega)
    have e1 : ((u 1).toNat : Int) = u 1 := by omega
    have e2 : ((u 2).toNat : Int) = u 2 := by omega
    have e3 : ((u 3).toNat : Int) = u 3 := by omega
    rw [if_pos (by omega), if_pos (by omega), if_pos (by omega), hcode (u 1) (u 2) (u 3) hu1 hu2 hu3, pre, sumidx (by omega) (by omega), z]
    have eC : ∀ (a b N : Nat), a < 11 → b < 11 → N ≤ 11 → sumN (fun c' => wt G v m f t (q * 1331 + (a * 121 + (b * 11 + c')))) N = v (gs G q 0) f a * (v (gs G q 1) a b * sumN (fun c : Nat => v (gs G q 2) (b : Int) (c : Int) * v (gs G q 3) (c : Int) t) N) := by
      intro a b N ha hb hN
      rw [← sumN_mul, ← sumN_mul]
      exact sumN_congr (fun c hc => wt_z4 hG hf hv hr hl z ha hb (by omega))
    have eB : ∀ (a N : Nat), a < 11 → N ≤ 11 → sumN (fun b' => sumN (fun c' => wt G v m f t (q * 1331 + (a * 121 + (b' * 11 + c')))) 11) N = v (gs G q 0) f a * sumN (fun b : Nat => v (gs G q 1) (a : Int) (b : Int) * sumN (fun c : Nat => v (gs G q 2) (b : Int) (c : Int) * v (gs G q 3) (c : Int) t) 11) N := by
      intro a N ha hN
      rw [← sumN_mul]
      exact sumN_congr (fun b hb => eC a b 11 ha (by omega) (Nat.le_refl _))
    have eA : ∀ a : Nat, a < (u 1).toNat → sumN (fun b' => sumN (fun c' => wt G v m f t (q * 1331 + (a * 121 + (b' * 11 + c')))) 11) 11 = v (gs G q 0) f a * sumN (fun b : Nat => v (gs G q 1) (a : Int) (b : Int) * sumN (fun c : Nat => v (gs G q 2) (b : Int) (c : Int) * v (gs G q 3) (c : Int) t) 11) 11 := fun a ha => eB a 11 (by omega) (Nat.le_refl _)
    rw [sumN_congr eA, eB _ _ (by omega) (by omega), eC _ _ _ (by omega) (by omega) (by omega), e1, e2]
    show _ = _ + (0 + 1 * sumN (fun e => v (gs G q 0) (u 0) (e : Int) * sumN (fun e2 => v (gs G q 1) (e : Int) (e2 : Int) * sumN (fun e3 => v (gs G q 2) (e2 : Int) (e3 : Int) * sumN (fun e4 => v (gs G q 3) (e3 : Int) (e4 : Int) * (if (e4 : Int) = t then 1 else 0)) 11) 11) 11) (u 1).toNat + 1 * v (gs G q 0) (u 0) (u 1) * sumN (fun e => v (gs G q 1) (u 1) (e : Int) * sumN (fun e2 => v (gs G q 2) (e : Int) (e2 : Int) * sumN (fun e3 => v (gs G q 3) (e2 : Int) (e3 : Int) * (if (e3 : Int) = t then 1 else 0)) 11) 11) (u 2).toNat + 1 * v (gs G q 0) (u 0) (u 1) * v (gs G q 1) (u 1) (u 2) * sumN (fun e => v (gs G q 2) (u 2) (e : Int) * sumN (fun e2 => v (gs G q 3) (e : Int) (e2 : Int) * (if (e2 : Int) = t then 1 else 0)) 11) (u 3).toNat + 1 * v (gs G q 0) (u 0) (u 1) * v (gs G q 1) (u 1) (u 2) * v (gs G q 2) (u 2) (u 3) * sumN (fun e => v (gs G q 3) (u 3) (e : Int) * (if (e : Int) = t then 1 else 0)) (u 4).toNat)
    rw [hz4, last _ _ _ (Nat.le_refl _), h0, Nat.mul_zero]
    have i3 : ∀ b : Int, sumN (fun e3 => v (gs G q 2) b (e3 : Int) * sumN (fun e4 => v (gs G q 3) (e3 : Int) (e4 : Int) * (if (e4 : Int) = t then 1 else 0)) 11) 11 = sumN (fun c : Nat => v (gs G q 2) b (c : Int) * v (gs G q 3) (c : Int) t) 11 := fun b => sumN_congr (fun c hc => by rw [last2])
    have s1 : sumN (fun e => v (gs G q 0) f (e : Int) * sumN (fun e2 => v (gs G q 1) (e : Int) (e2 : Int) * sumN (fun e3 => v (gs G q 2) (e2 : Int) (e3 : Int) * sumN (fun e4 => v (gs G q 3) (e3 : Int) (e4 : Int) * (if (e4 : Int) = t then 1 else 0)) 11) 11) 11) (u 1).toNat = sumN (fun a : Nat => v (gs G q 0) f (a : Int) * sumN (fun b : Nat => v (gs G q 1) (a : Int) (b : Int) * sumN (fun c : Nat => v (gs G q 2) (b : Int) (c : Int) * v (gs G q 3) (c : Int) t) 11) 11) (u 1).toNat := by
      refine sumN_congr (fun a ha => ?_)
      congr 1
      exact sumN_congr (fun b hb => by rw [i3])
    have s2 : sumN (fun e => v (gs G q 1) (u 1) (e : Int) * sumN (fun e2 => v (gs G q 2) (e : Int) (e2 : Int) * sumN (fun e3 => v (gs G q 3) (e2 : Int) (e3 : Int) * (if (e3 : Int) = t then 1 else 0)) 11) 11) (u 2).toNat = sumN (fun b : Nat => v (gs G q 1) (u 1) (b : Int) * sumN (fun c : Nat => v (gs G q 2) (b : Int) (c : Int) * v (gs G q 3) (c : Int) t) 11) (u 2).toNat := sumN_congr (fun b hb => by rw [i3])
    have s3 : sumN (fun e => v (gs G q 2) (u 2) (e : Int) * sumN (fun e2 => v (gs G q 3) (e : Int) (e2 : Int) * (if (e2 : Int) = t then 1 else 0)) 11) (u 3).toNat = sumN (fun c : Nat => v (gs G q 2) (u 2) (c : Int) * v (gs G q 3) (c : Int) t) (u 3).toNat := sumN_congr (fun c hc => by rw [last2])
    rw [s1, s2, s3]
    simp only [Nat.one_mul, Nat.zero_add, Nat.add_zero, Nat.mul_assoc, Nat.add_assoc]
end RK
