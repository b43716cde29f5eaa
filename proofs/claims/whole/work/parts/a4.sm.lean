/-! Sums -/
def sumN (f : Nat → Nat) : Nat → Nat
  | 0 => 0
  | n + 1 => sumN f n + f n
section SM
variable {f g : Nat → Nat} {n m c : Nat}
theorem sumN_congr (h : ∀ k, k < n → f k = g k) : sumN f n = sumN g n := by
  induction n with
  | zero => rfl
  | succ n ih =>
    show sumN f n + f n = sumN g n + g n
    rw [ih (fun k hk => h k (by omega)), h n (by omega)]
theorem sumN_zero (h : ∀ k, k < n → f k = 0) : sumN f n = 0 := by
  induction n with
  | zero => rfl
  | succ n ih =>
    show sumN f n + f n = 0
    rw [ih (fun k hk => h k (by omega)), h n (by omega)]
theorem sumN_mul : sumN (fun k => c * f k) n = c * sumN f n := by
  induction n with
  | zero => rfl
  | succ n ih =>
    show sumN (fun k => c * f k) n + c * f n = c * (sumN f n + f n)
    rw [ih, Nat.mul_add]
theorem sumN_add : sumN (fun k => f k + g k) n = sumN f n + sumN g n := by
  induction n with
  | zero => rfl
  | succ n ih =>
    show sumN (fun k => f k + g k) n + (f n + g n) = sumN f n + f n + (sumN g n + g n)
    rw [ih]; omega
theorem sumN_swap {h : Nat → Nat → Nat} : sumN (fun i => sumN (fun j => h i j) m) n = sumN (fun j => sumN (fun i => h i j) n) m := by
  induction n with
  | zero => exact (sumN_zero (fun _ _ => rfl)).symm
  | succ n ih =>
    show sumN (fun i => sumN (fun j => h i j) m) n + sumN (fun j => h n j) m = sumN (fun j => sumN (fun i => h i j) n + h n j) m
    rw [ih, sumN_add]
theorem sumN_one {a : Nat} (ha : a < n) (h : ∀ k, k < n → k ≠ a → f k = 0) : sumN f n = f a := by
  induction n with
  | zero => omega
  | succ n ih =>
    show sumN f n + f n = f a
    by_cases e : a = n
    · subst e
      rw [sumN_zero (fun k hk => h k (by omega) (by omega))]; omega
    · rw [ih (by omega) (fun k hk => h k (by omega)), h n (by omega) (by omega)]; omega
theorem sumN_app : sumN f (n + m) = sumN f n + sumN (fun k => f (n + k)) m := by
  induction m with
  | zero => rfl
  | succ m ih =>
    show sumN f (n + m) + f (n + m) = sumN f n + (sumN (fun k => f (n + k)) m + f (n + m))
    rw [ih]; omega
theorem sumN_prod {b : Nat} : sumN f (n * b) = sumN (fun i => sumN (fun j => f (i * b + j)) b) n := by
  induction n with
  | zero => rw [Nat.zero_mul]; rfl
  | succ n ih =>
    rw [Nat.succ_mul, sumN_app, ih]
    rfl
theorem sumN_skip (hnm : n ≤ m) (h : ∀ k, n ≤ k → k < m → f k = 0) : sumN f m = sumN f n := by
  have e : m = n + (m - n) := by omega
  rw [e, sumN_app, sumN_zero (fun k hk => h (n + k) (by omega) (by omega))]; omega
theorem sumN_le (h : ∀ k, k < n → f k ≤ g k) : sumN f n ≤ sumN g n := by
  induction n with
  | zero => exact Nat.le_refl _
  | succ n ih =>
    have h1 := ih (fun k hk => h k (by omega))
    have h2 := h n (by omega)
    show sumN f n + f n ≤ sumN g n + g n
    omega
theorem sumN_mono (h : n ≤ m) : sumN f n ≤ sumN f m := by
  have e : m = n + (m - n) := by omega
  rw [e, sumN_app]; omega
end SM
theorem cntB_sum {f : Nat → Bool} {n : Nat} : cntB f n = sumN (fun k => (f k).toNat) n := by
  induction n with
  | zero => rfl
  | succ n ih =>
    show cntB f n + (f n).toNat = sumN (fun k => (f k).toNat) n + (f n).toNat
    rw [ih]
/-! The weight of a family, and of all families of a node -/
def pw (G : gT) (v : Int → Int → Int → Nat) (f t r a b c : Int) : Nat := (if 0 < gz G r then v (gs G r 0) f a else if f = t then 1 else 0) * ((if 1 < gz G r then v (gs G r 1) a b else 1) * ((if 2 < gz G r then v (gs G r 2) b c else 1) * (if 3 < gz G r then v (gs G r 3) c t else 1)))
def wt (G : gT) (v : Int → Int → Int → Nat) (m f t : Int) (k : Nat) : Nat := if vt G m f t ((k / 1331 : Nat) : Int) ((k / 121 % 11 : Nat) : Int) ((k / 11 % 11 : Nat) : Int) ((k % 11 : Nat) : Int) then pw G v f t ((k / 1331 : Nat) : Int) ((k / 121 % 11 : Nat) : Int) ((k / 11 % 11 : Nat) : Int) ((k % 11 : Nat) : Int) else 0
/-- the ways of the last k symbols of rule r (of z) from p to t -/
def rw' (G : gT) (v : Int → Int → Int → Nat) (r t : Int) (z : Nat) : Nat → Int → Nat
  | 0, p => if p = t then 1 else 0
  | k + 1, p => sumN (fun e => v (gs G r ((z - (k + 1) : Nat) : Int)) p (e : Int) * rw' G v r t z k (e : Int)) 11
section WT
variable {G : gT} {v : Int → Int → Int → Nat} {m f t r : Int}
theorem wt_cd (hG : okG G) (hf : 0 ≤ f ∧ f ≤ t ∧ t ≤ 10) {a b c : Nat} {q : Nat} (ha : a < 11) (hb : b < 11) (hc : c < 11) : wt G v m f t (q * 1331 + (a * 121 + (b * 11 + c))) = if vt G m f t (q : Int) (a : Int) (b : Int) (c : Int) then pw G v f t (q : Int) (a : Int) (b : Int) (c : Int) else 0 := by
  unfold wt
  rw [show (q * 1331 + (a * 121 + (b * 11 + c))) / 1331 = q by omega, show (q * 1331 + (a * 121 + (b * 11 + c))) / 121 % 11 = a by omega, show (q * 1331 + (a * 121 + (b * 11 + c))) / 11 % 11 = b by omega, show (q * 1331 + (a * 121 + (b * 11 + c))) % 11 = c by omega]
theorem sum1331 {F : Nat → Nat} : sumN F 1331 = sumN (fun a => sumN (fun b => sumN (fun c => F (a * 121 + (b * 11 + c))) 11) 11) 11 := by
  rw [show (1331 : Nat) = 11 * 121 from rfl, sumN_prod]
  refine sumN_congr (fun a ha => ?_)
  rw [show (121 : Nat) = 11 * 11 from rfl, sumN_prod]
/-- one rule's families -/
theorem rule_sum (hG : okG G) (hf : 0 ≤ f ∧ f ≤ t ∧ t ≤ 10) (hv : ∀ x p e : Int, v x p e ≠ 0 → p ≤ e) {q : Nat} (hr : (q : Int) < gn G) (hl : gl G q = m) : sumN (fun k => wt G v m f t (q * 1331 + k)) 1331 = rw' G v q t (gz G q).toNat (gz G q).toNat f := by
  have g := (hG.2 q (by omega) hr).2.1
  rw [sum1331]
  have tn : (t.toNat : Int) = t := by omega
  have hv0 : ∀ x p e : Int, ¬ p ≤ e → v x p e = 0 := fun x p e h => Decidable.byContradiction (fun hn => h (hv x p e hn))
  have last : ∀ (x : Int) (p : Int), sumN (fun e => v x p (e : Int) * (if (e : Int) = t then 1 else 0)) 11 = v x p t := by
    intro x p
    rw [sumN_one (a := t.toNat) (by omega) (fun k hk hne => by rw [if_neg (by omega), Nat.mul_zero]), if_pos tn, Nat.mul_one, tn]
  rcases (by omega : gz G q = 0 ∨ gz G q = 1 ∨ gz G q = 2 ∨ gz G q = 3 ∨ gz G q = 4) with z | z | z | z | z
  · -- no symbol
    have e : ∀ a b c : Nat, a < 11 → b < 11 → c < 11 → wt G v m f t (q * 1331 + (a * 121 + (b * 11 + c))) = if (a : Int) = t ∧ (b : Int) = t ∧ (c : Int) = t then (if f = t then 1 else 0) else 0 := by
      intro a b c ha hb hc
      rw [wt_cd hG hf ha hb hc]
      by_cases h : (a : Int) = t ∧ (b : Int) = t ∧ (c : Int) = t
      · rw [if_pos h, if_pos ⟨⟨by omega, hr⟩, hl, fun _ => h.1, fun h => by omega, fun _ => h.2.1, fun h => by omega, fun _ => h.2.2, fun h => by omega⟩]
        unfold pw
        rw [if_neg (show ¬ 0 < gz G (q : Int) by omega), if_neg (show ¬ 1 < gz G (q : Int) by omega), if_neg (show ¬ 2 < gz G (q : Int) by omega), if_neg (show ¬ 3 < gz G (q : Int) by omega)]
        simp
      · rw [if_neg h, if_neg (fun hvt => h ⟨hvt.2.2.1 (by omega), hvt.2.2.2.2.1 (by omega), hvt.2.2.2.2.2.2.1 (by omega)⟩)]
    rw [sumN_one (a := t.toNat) (by omega) (fun a ha hne => sumN_zero (fun b hb => sumN_zero (fun c hc => by rw [e a b c ha hb hc, if_neg (by omega)]))), sumN_one (a := t.toNat) (by omega) (fun b hb hne => sumN_zero (fun c hc => by rw [e _ b c (by omega) hb hc, if_neg (by omega)])), sumN_one (a := t.toNat) (by omega) (fun c hc hne => by rw [e _ _ c (by omega) (by omega) hc, if_neg (by omega)]), e _ _ _ (by omega) (by omega) (by omega), if_pos ⟨tn, tn, tn⟩, z]
    rfl
  · -- one
    have e : ∀ a b c : Nat, a < 11 → b < 11 → c < 11 → wt G v m f t (q * 1331 + (a * 121 + (b * 11 + c))) = if (a : Int) = t ∧ (b : Int) = t ∧ (c : Int) = t then v (gs G q 0) f a else 0 := by
      intro a b c ha hb hc
      rw [wt_cd hG hf ha hb hc]
      by_cases h : (a : Int) = t ∧ (b : Int) = t ∧ (c : Int) = t
      · rw [if_pos h, if_pos ⟨⟨by omega, hr⟩, hl, fun _ => h.1, fun h => by omega, fun _ => h.2.1, fun h => by omega, fun _ => h.2.2, fun h => by omega⟩]
        unfold pw
        rw [if_pos (by omega), if_neg (by omega), if_neg (by omega), if_neg (by omega)]
        simp
      · rw [if_neg h, if_neg (fun hvt => h ⟨hvt.2.2.1 (by omega), hvt.2.2.2.2.1 (by omega), hvt.2.2.2.2.2.2.1 (by omega)⟩)]
    rw [sumN_one (a := t.toNat) (by omega) (fun a ha hne => sumN_zero (fun b hb => sumN_zero (fun c hc => by rw [e a b c ha hb hc, if_neg (by omega)]))), sumN_one (a := t.toNat) (by omega) (fun b hb hne => sumN_zero (fun c hc => by rw [e _ b c (by omega) hb hc, if_neg (by omega)])), sumN_one (a := t.toNat) (by omega) (fun c hc hne => by rw [e _ _ c (by omega) (by omega) hc, if_neg (by omega)]), e _ _ _ (by omega) (by omega) (by omega), if_pos ⟨tn, tn, tn⟩, z, tn]
    exact (last _ _).symm
  · -- two
    have e : ∀ a b c : Nat, a < 11 → b < 11 → c < 11 → wt G v m f t (q * 1331 + (a * 121 + (b * 11 + c))) = if (b : Int) = t ∧ (c : Int) = t then v (gs G q 0) f a * v (gs G q 1) a t else 0 := by
      intro a b c ha hb hc
      rw [wt_cd hG hf ha hb hc]
      by_cases h : (b : Int) = t ∧ (c : Int) = t
      · rw [if_pos h]
        by_cases h2 : f ≤ a ∧ (a : Int) ≤ t
        · rw [if_pos ⟨⟨by omega, hr⟩, hl, fun h => by omega, fun _ => h2, fun _ => h.1, fun h => by omega, fun _ => h.2, fun h => by omega⟩]
          unfold pw
          rw [if_pos (by omega), if_pos (by omega), if_neg (by omega), if_neg (by omega), h.1]
          simp
        · rw [if_neg (fun hvt => h2 (hvt.2.2.2.1 (by omega)))]
          by_cases h3 : f ≤ a
          · rw [hv0 (gs G q 1) a t (by omega), Nat.mul_zero]
          · rw [hv0 (gs G q 0) f a h3, Nat.zero_mul]
      · rw [if_neg h, if_neg (fun hvt => h ⟨hvt.2.2.2.2.1 (by omega), hvt.2.2.2.2.2.2.1 (by omega)⟩)]
    have e2 : ∀ a : Nat, a < 11 → sumN (fun b => sumN (fun c => wt G v m f t (q * 1331 + (a * 121 + (b * 11 + c)))) 11) 11 = v (gs G q 0) f a * v (gs G q 1) a t := by
      intro a ha
      rw [sumN_one (a := t.toNat) (by omega) (fun b hb hne => sumN_zero (fun c hc => by rw [e _ b c ha hb hc, if_neg (by omega)])), sumN_one (a := t.toNat) (by omega) (fun c hc hne => by rw [e _ _ c ha (by omega) hc, if_neg (by omega)]), e _ _ _ ha (by omega) (by omega), if_pos ⟨tn, tn⟩]
    rw [sumN_congr e2, z]
    show _ = sumN (fun e => v (gs G q 0) f (e : Int) * sumN (fun e2 => v (gs G q 1) (e : Int) (e2 : Int) * (if (e2 : Int) = t then 1 else 0)) 11) 11
    exact sumN_congr (fun a ha => by rw [last])
  · -- three
    have e : ∀ a b c : Nat, a < 11 → b < 11 → c < 11 → wt G v m f t (q * 1331 + (a * 121 + (b * 11 + c))) = if (c : Int) = t then v (gs G q 0) f a * (v (gs G q 1) a b * v (gs G q 2) b t) else 0 := by
      intro a b c ha hb hc
      rw [wt_cd hG hf ha hb hc]
      by_cases h : (c : Int) = t
      · rw [if_pos h]
        by_cases h2 : f ≤ a ∧ (a : Int) ≤ b ∧ (b : Int) ≤ t
        · rw [if_pos ⟨⟨by omega, hr⟩, hl, fun h => by omega, fun _ => by omega, fun h => by omega, fun _ => by omega, fun _ => h, fun h => by omega⟩]
          unfold pw
          rw [if_pos (by omega), if_pos (by omega), if_pos (by omega), if_neg (by omega), h]
          simp
        · rw [if_neg (fun hvt => h2 ⟨(hvt.2.2.2.1 (by omega)).1, hvt.2.2.2.2.2.1 (by omega)⟩)]
          by_cases h3 : f ≤ a
          · by_cases h4 : (a : Int) ≤ b
            · rw [hv0 (gs G q 2) b t (by omega), Nat.mul_zero, Nat.mul_zero]
            · rw [hv0 (gs G q 1) a b h4, Nat.zero_mul, Nat.mul_zero]
          · rw [hv0 (gs G q 0) f a h3, Nat.zero_mul]
      · rw [if_neg h, if_neg (fun hvt => h (hvt.2.2.2.2.2.2.1 (by omega)))]
    have e2 : ∀ a : Nat, a < 11 → sumN (fun b => sumN (fun c => wt G v m f t (q * 1331 + (a * 121 + (b * 11 + c)))) 11) 11 = v (gs G q 0) f a * sumN (fun b => v (gs G q 1) a (b : Int) * v (gs G q 2) (b : Int) t) 11 := by
      intro a ha
      rw [← sumN_mul]
      refine sumN_congr (fun b hb => ?_)
      rw [sumN_one (a := t.toNat) (by omega) (fun c hc hne => by rw [e _ _ c ha hb hc, if_neg (by omega)]), e _ _ _ ha hb (by omega), if_pos tn]
    rw [sumN_congr e2, z]
    show _ = sumN (fun e => v (gs G q 0) f (e : Int) * sumN (fun e2 => v (gs G q 1) (e : Int) (e2 : Int) * sumN (fun e3 => v (gs G q 2) (e2 : Int) (e3 : Int) * (if (e3 : Int) = t then 1 else 0)) 11) 11) 11
    refine sumN_congr (fun a ha => ?_)
    congr 1
    exact sumN_congr (fun b hb => by rw [last])
  · -- four
    have e : ∀ a b c : Nat, a < 11 → b < 11 → c < 11 → wt G v m f t (q * 1331 + (a * 121 + (b * 11 + c))) = v (gs G q 0) f a * (v (gs G q 1) a b * (v (gs G q 2) b c * v (gs G q 3) c t)) := by
      intro a b c ha hb hc
      rw [wt_cd hG hf ha hb hc]
      by_cases h2 : f ≤ a ∧ (a : Int) ≤ b ∧ (b : Int) ≤ c ∧ (c : Int) ≤ t
      · rw [if_pos ⟨⟨by omega, hr⟩, hl, fun h => by omega, fun _ => by omega, fun h => by omega, fun _ => by omega, fun h => by omega, fun _ => by omega⟩]
        unfold pw
        rw [if_pos (by omega), if_pos (by omega), if_pos (by omega), if_pos (by omega)]
      · rw [if_neg (fun hvt => h2 ⟨(hvt.2.2.2.1 (by omega)).1, (hvt.2.2.2.2.2.1 (by omega)).1, hvt.2.2.2.2.2.2.2 (by omega)⟩)]
        by_cases h3 : f ≤ a
        · by_cases h4 : (a : Int) ≤ b
          · by_cases h5 : (b : Int) ≤ c
            · rw [hv0 (gs G q 3) c t (by omega), Nat.mul_zero, Nat.mul_zero, Nat.mul_zero]
            · rw [hv0 (gs G q 2) b c h5, Nat.zero_mul, Nat.mul_zero, Nat.mul_zero]
          · rw [hv0 (gs G q 1) a b h4, Nat.zero_mul, Nat.mul_zero]
        · rw [hv0 (gs G q 0) f a h3, Nat.zero_mul]
    rw [z]
    show _ = sumN (fun e => v (gs G q 0) f (e : Int) * sumN (fun e2 => v (gs G q 1) (e : Int) (e2 : Int) * sumN (fun e3 => v (gs G q 2) (e2 : Int) (e3 : Int) * sumN (fun e4 => v (gs G q 3) (e3 : Int) (e4 : Int) * (if (e4 : Int) = t then 1 else 0)) 11) 11) 11) 11
    refine sumN_congr (fun a ha => ?_)
    rw [← sumN_mul]
    refine sumN_congr (fun b hb => ?_)
    rw [← sumN_mul, ← sumN_mul]
    refine sumN_congr (fun c hc => ?_)
    rw [e a b c ha hb hc, last]
theorem rule_none {q : Nat} (h : ¬ ((q : Int) < gn G ∧ gl G q = m)) : sumN (fun k => wt G v m f t (q * 1331 + k)) 1331 = 0 := by
  refine sumN_zero (fun k hk => ?_)
  unfold wt
  rw [show (q * 1331 + k) / 1331 = q by omega]
  exact if_neg (fun hvt => h ⟨hvt.1.2, hvt.2.1⟩)
/-- all families of a node, rule by rule -/
theorem node_sum (hG : okG G) (hf : 0 ≤ f ∧ f ≤ t ∧ t ≤ 10) (hv : ∀ x p e : Int, v x p e ≠ 0 → p ≤ e) (N : Nat) : sumN (wt G v m f t) (N * 1331) = sumN (fun q => if (q : Int) < gn G ∧ gl G q = m then rw' G v q t (gz G q).toNat (gz G q).toNat f else 0) N := by
  rw [sumN_prod]
  refine sumN_congr (fun q hq => ?_)
  by_cases h : (q : Int) < gn G ∧ gl G q = m
  · rw [if_pos h]; exact rule_sum hG hf hv h.1 h.2
  · rw [if_neg h]; exact rule_none h
end WT
