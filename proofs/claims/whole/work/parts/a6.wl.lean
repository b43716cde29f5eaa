/-! Weights along the model's walk -/
section WL
variable {G : gT} {n : Int} {w : Int → Int} {T : Int → Int → Int → Bool} {v v' : Int → Int → Int → Nat} {m f t r a b c : Int} {M : ev_M}
theorem famS {σ : Type} {c : σ → Int → ev_M → Prop} {P : σ → Int → ev_M → Prop} {nd : Int} {s : σ} (hG : okG G) (hD : isD G n w T) (hm : 0 ≤ m) (hf : 0 ≤ f ∧ f ≤ t ∧ t ≤ 10) (hnd : nd = 121 * m + 11 * f + t) (hlt : nd < 726)
    (hP : ∀ (s : σ) (k : Int) (M1 : ev_M), P s k M1 → isM G M1 ∧ PAR G n w M1) (hfr : ∀ (s : σ) (k : Int) (M1 M2 : ev_M), fr itS0 [] M1 M2 → P s k M1 → P s k M2)
    (hskip : ∀ (s : σ) (k k' : Int) (M1 : ev_M), 0 ≤ k → k ≤ k' → (∀ r a b d : Int, isF G T m f t r a b d → k ≤ (1331 * r + 121 * a + 11 * b + d) → k' ≤ (1331 * r + 121 * a + 11 * b + d)) → P s k M1 → P s k' M1)
    (hbody : ∀ (s : σ) (M1 : ev_M), itR G m f t M1 → 0 ≤ sM_rule M1 → isF G T m f t (sM_rule M1) (sM_one M1) (sM_two M1) (sM_three M1) → (0 ≤ cur M1 ∧ cur M1 < 18634) → cur M1 = (1331 * (sM_rule M1) + 121 * (sM_one M1) + 11 * (sM_two M1) + (sM_three M1)) → P s (cur M1) M1 → (∀ (s' : σ) (M2 : ev_M), itR G m f t M2 → cur M2 = cur M1 → P s' (cur M1 + 1) M2 → m111 M2 (c s')) → c s 1 M1)
    (hend : ∀ (s : σ) (M1 : ev_M), P s 18634 M1 → c s 0 M1) (h : P s 0 M) : m112 nd M (c s) := by
  have key : ∀ (k : Nat) (s : σ) (M1 : ev_M), 18634 - cur M1 ≤ k → itR G m f t M1 → 0 ≤ sM_rule M1 → isF G T m f t (sM_rule M1) (sM_one M1) (sM_two M1) (sM_three M1) → P s (cur M1) M1 → c s 1 M1 := by
    intro k
    induction k with
    | zero =>
      intro s M1 hk hI hr hF hp
      have := hF.1.rng hG hf
      have ec : cur M1 = (1331 * (sM_rule M1) + 121 * (sM_one M1) + 11 * (sM_two M1) + (sM_three M1)) := if_neg (by omega)
      omega
    | succ k ih =>
      intro s M1 hk hI hr hF hp
      have hv := hF.1.rng hG hf
      have ec : cur M1 = (1331 * (sM_rule M1) + 121 * (sM_one M1) + 11 * (sM_two M1) + (sM_three M1)) := if_neg (by omega)
      refine hbody s M1 hI hr hF (by omega) ec hp (fun s' M2 hI2 ec2 hp2 => ?_)
      obtain ⟨hM2, hP2⟩ := hP _ _ _ hp2
      refine g_m111 hG hM2 hP2 hD hf hI2 (fun M3 hf3 hr3 hI3 hF3 hlt3 hmin3 => ?_) (fun M3 hf3 hall => ?_)
      · refine ih s' M3 (by omega) hI3 hr3 hF3 (hfr _ _ _ _ (hf3.mono (by decide) (by decide)) (hskip s' (cur M1 + 1) (cur M3) M2 (by omega) (by omega) (fun r a b d hF4 hle => hmin3 r a b d hF4 (by omega)) hp2))
      · refine hend s' M3 (hfr _ _ _ _ (hf3.mono (by decide) (by decide)) (hskip s' (cur M1 + 1) 18634 M2 (by omega) (by omega) (fun r a b d hF4 hle => ?_) hp2))
        have := hall r a b d hF4
        omega
  obtain ⟨hM, hPa⟩ := hP _ _ _ h
  refine g_m112 hG hM hPa hD hm hf hnd hlt (fun M' hf' hr hI hF hmin => ?_) (fun M' hf' hno => ?_)
  · have hv := hF.1.rng hG hf
    have ec : cur M' = (1331 * (sM_rule M') + 121 * (sM_one M') + 11 * (sM_two M') + (sM_three M')) := if_neg (by omega)
    exact key (18634 - cur M').toNat s M' (by omega) hI hr hF (hfr _ _ _ _ hf' (hskip s 0 (cur M') M (by omega) (by omega) (fun r a b d hF4 _ => hmin r a b d hF4) h))
  · exact hend s M' (hfr _ _ _ _ hf' (hskip s 0 18634 M (by omega) (by omega) (fun r a b d hF4 _ => absurd hF4 (hno r a b d)) h))
/-- weights are nothing where the chart says no -/
def onT (T : Int → Int → Int → Bool) (v : Int → Int → Int → Nat) : Prop := ∀ x p e : Int, v x p e ≠ 0 → T x p e = true
theorem onT.z (h : onT T v) {x p e : Int} (hx : ¬ T x p e = true) : v x p e = 0 := Decidable.byContradiction (fun hn => hx (h x p e hn))
theorem wt_at (hG : okG G) (hf : 0 ≤ f ∧ f ≤ t ∧ t ≤ 10) (hv : vt G m f t r a b c) : wt G v m f t ((1331 * r + 121 * a + 11 * b + c)).toNat = pw G v f t r a b c := by
  have h := hv.rng hG hf
  unfold wt
  rw [show ((((1331 * r + 121 * a + 11 * b + c)).toNat / 1331 : Nat) : Int) = r by omega, show ((((1331 * r + 121 * a + 11 * b + c)).toNat / 121 % 11 : Nat) : Int) = a by omega, show ((((1331 * r + 121 * a + 11 * b + c)).toNat / 11 % 11 : Nat) : Int) = b by omega, show ((((1331 * r + 121 * a + 11 * b + c)).toNat % 11 : Nat) : Int) = c by omega, if_pos hv]
theorem pw_no (hT : onT T v) (hn : ¬ isF G T m f t r a b c) (hv : vt G m f t r a b c) : pw G v f t r a b c = 0 := by
  unfold pw
  by_cases z0 : 0 < gz G r
  · rw [if_pos z0]
    by_cases h0 : T (gs G r 0) f a = true
    · by_cases z1 : 1 < gz G r
      · rw [if_pos z1]
        by_cases h1 : T (gs G r 1) a b = true
        · by_cases z2 : 2 < gz G r
          · rw [if_pos z2]
            by_cases h2 : T (gs G r 2) b c = true
            · by_cases z3 : 3 < gz G r
              · rw [if_pos z3]
                by_cases h3 : T (gs G r 3) c t = true
                · exact absurd ⟨hv, fun h => by omega, fun _ => h0, fun _ => h1, fun _ => h2, fun _ => h3⟩ hn
                · rw [hT.z h3, Nat.mul_zero, Nat.mul_zero, Nat.mul_zero]
              · exact absurd ⟨hv, fun h => by omega, fun _ => h0, fun _ => h1, fun _ => h2, fun h => absurd h z3⟩ hn
            · rw [hT.z h2, Nat.zero_mul, Nat.mul_zero, Nat.mul_zero]
          · exact absurd ⟨hv, fun h => by omega, fun _ => h0, fun _ => h1, fun h => absurd h z2, fun h => by omega⟩ hn
        · rw [hT.z h1, Nat.zero_mul, Nat.mul_zero]
      · exact absurd ⟨hv, fun h => by omega, fun _ => h0, fun h => absurd h z1, fun h => by omega, fun h => by omega⟩ hn
    · rw [hT.z h0, Nat.zero_mul]
  · rw [if_neg z0]
    by_cases e : f = t
    · exact absurd ⟨hv, fun _ => e, fun h => absurd h z0, fun h => by omega, fun h => by omega, fun h => by omega⟩ hn
    · rw [if_neg e, Nat.zero_mul]
theorem wt_no (hT : onT T v) {k : Nat} (hn : ¬ isF G T m f t ((k / 1331 : Nat) : Int) ((k / 121 % 11 : Nat) : Int) ((k / 11 % 11 : Nat) : Int) ((k % 11 : Nat) : Int)) : wt G v m f t k = 0 := by
  unfold wt
  by_cases hv : vt G m f t ((k / 1331 : Nat) : Int) ((k / 121 % 11 : Nat) : Int) ((k / 11 % 11 : Nat) : Int) ((k % 11 : Nat) : Int)
  · rw [if_pos hv]; exact pw_no hT hn hv
  · exact if_neg hv
theorem dec_eq (q : Nat) : 1331 * ((q / 1331 : Nat) : Int) + 121 * ((q / 121 % 11 : Nat) : Int) + 11 * ((q / 11 % 11 : Nat) : Int) + ((q % 11 : Nat) : Int) = (q : Int) := by
  have h1 : q / 121 / 11 = q / 1331 := Nat.div_div_eq_div_mul q 121 11
  have h2 : q / 11 / 11 = q / 121 := Nat.div_div_eq_div_mul q 11 11
  omega
theorem wt_skip (hT : onT T v) {k k' : Int} (k0 : 0 ≤ k) (hk : k ≤ k') (hno : ∀ r a b d : Int, isF G T m f t r a b d → k ≤ (1331 * r + 121 * a + 11 * b + d) → k' ≤ (1331 * r + 121 * a + 11 * b + d)) : sumN (wt G v m f t) k'.toNat = sumN (wt G v m f t) k.toNat := by
  refine sumN_skip (by omega) (fun q q0 q1 => wt_no hT (fun hF => ?_))
  have h3 := hno _ _ _ _ hF
  clear hF hno
  rw [dec_eq] at h3
  have := h3 (by omega)
  omega
theorem wt_step (hG : okG G) (hf : 0 ≤ f ∧ f ≤ t ∧ t ≤ 10) (hv : vt G m f t r a b c) : sumN (wt G v m f t) ((1331 * r + 121 * a + 11 * b + c) + 1).toNat = sumN (wt G v m f t) ((1331 * r + 121 * a + 11 * b + c)).toNat + pw G v f t r a b c := by
  have h := hv.rng hG hf
  rw [show ((1331 * r + 121 * a + 11 * b + c) + 1).toNat = ((1331 * r + 121 * a + 11 * b + c)).toNat + 1 by omega]
  show _ + wt G v m f t ((1331 * r + 121 * a + 11 * b + c)).toNat = _
  rw [wt_at hG hf hv]
theorem pw_vT (hG : okG G) (hF : isF G T m f t r a b c) : pw G (vT T) f t r a b c = 1 := by
  obtain ⟨hv, h0, h1, h2, h3, h4⟩ := hF
  unfold pw vT
  have e0 : (if 0 < gz G r then (T (gs G r 0) f a).toNat else if f = t then 1 else 0) = 1 := by
    by_cases z : 0 < gz G r
    · rw [if_pos z, h1 z]; rfl
    · rw [if_neg z]
      by_cases z0 : gz G r = 0
      · exact if_pos (h0 z0)
      · -- no size below zero stands in a family
        by_cases e : f = t
        · exact if_pos e
        · exfalso
          have := (hG.2 r hv.1.1 hv.1.2).2.1
          omega
  have e1 : (if 1 < gz G r then (T (gs G r 1) a b).toNat else 1) = 1 := by
    by_cases z : 1 < gz G r
    · rw [if_pos z, h2 z]; rfl
    · exact if_neg z
  have e2 : (if 2 < gz G r then (T (gs G r 2) b c).toNat else 1) = 1 := by
    by_cases z : 2 < gz G r
    · rw [if_pos z, h3 z]; rfl
    · exact if_neg z
  have e3 : (if 3 < gz G r then (T (gs G r 3) c t).toNat else 1) = 1 := by
    by_cases z : 3 < gz G r
    · rw [if_pos z, h4 z]; rfl
    · exact if_neg z
  rw [e0, e1, e2, e3]
theorem wt_le (hv : ∀ x p e : Int, v x p e ≤ 1) (k : Nat) : wt G v m f t k ≤ 1 := by
  unfold wt
  split
  · unfold pw
    have e0 : ∀ (P : Prop) [Decidable P] (x : Nat), x ≤ 1 → (if P then x else 1) ≤ 1 := by
      intro P _ x hx; split <;> omega
    have e1 : (if 0 < gz G ((k / 1331 : Nat) : Int) then v (gs G ((k / 1331 : Nat) : Int) 0) f ((k / 121 % 11 : Nat) : Int) else if f = t then 1 else 0) ≤ 1 := by
      split
      · exact hv _ _ _
      · split <;> omega
    have m1 : ∀ x y : Nat, x ≤ 1 → y ≤ 1 → x * y ≤ 1 := fun x y hx hy => Nat.mul_le_mul hx hy
    exact m1 _ _ e1 (m1 _ _ (e0 _ _ (hv _ _ _)) (m1 _ _ (e0 _ _ (hv _ _ _)) (e0 _ _ (hv _ _ _))))
  · omega
theorem nfam_le : nfam G T m f t ≤ 18634 := by
  have h1 : nfam G T m f t ≤ sumN (fun _ => 1) 18634 := sumN_le (fun k _ => wt_le vT_le k)
  have h2 : ∀ N : Nat, sumN (fun _ => 1) N = N := by
    intro N
    induction N with
    | zero => rfl
    | succ N ih => show sumN (fun _ => 1) N + 1 = N + 1; rw [ih]
  rw [h2] at h1
  exact h1
theorem onT_vT : onT T (vT T) := by
  intro x p e h
  unfold vT at h
  cases hc : T x p e with
  | true => rfl
  | false => rw [hc] at h; exact absurd rfl h
end WL
