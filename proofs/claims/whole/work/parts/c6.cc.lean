/-! The class: choosing the cuts, sharing out -/
section CC2
variable {G : gT} {n : Int} {w : Int → Int} {T : Int → Int → Int → Bool} {v : Int → Int → Int → Nat} {fl : Int → Int → Int → Int} {m i j r t : Int} {u u' : Nat → Int} {M M' : ev_M}
theorem capmm {a b : Nat} : min (min a 1000000000 * min b 1000000000) 1000000000 = min (a * b) 1000000000 := by
  rw [capm, Nat.mul_comm, capm, Nat.mul_comm]
theorem rkB_ext : ∀ d : Nat, (∀ d' : Nat, d' ≤ d → u' d' = u d') → rkB G v r u' d = rkB G v r u d := by
  intro d
  induction d with
  | zero => intro _; rfl
  | succ d ih =>
    intro h
    show rkB G v r u' d * _ = rkB G v r u d * _
    rw [ih (fun d' hd => h d' (by omega)), h d (by omega), h (d + 1) (Nat.le_refl _)]
theorem rk_ext {z : Nat} : ∀ d : Nat, (∀ d' : Nat, d' ≤ d → u' d' = u d') → rk G v r t z u' d = rk G v r t z u d := by
  intro d
  induction d with
  | zero => intro _; rfl
  | succ d ih =>
    intro h
    show rk G v r t z u' d + rkB G v r u' d * _ = rk G v r t z u d + rkB G v r u d * _
    rw [ih (fun d' hd => h d' (by omega)), rkB_ext d (fun d' hd => h d' (by omega)), h d (by omega), h (d + 1) (Nat.le_refl _)]
theorem g_m56 {Q : Int → ev_M → Prop} {x nd : Int} {k : Nat} (hG : okG G) (hC : isC G M) (hR : tR' M) (hon : onT T (vC M)) (hord : ∀ x p e : Int, vC M x p e ≠ 0 → p ≤ e) (hr : 0 ≤ r ∧ r < gn G) (hij : 0 ≤ i ∧ i ≤ j ∧ j ≤ 10) (hm : 0 ≤ m ∧ m < 6) (hnd : nd = (m * 11 + i) * 11 + j) (hW : wRest G (vC M) fl r i j 0 M) (hk : k < rw' G (vC M) r j (gz G r).toNat (gz G r).toNat i) (hkc : k < 1000000000)
    (h : ∀ (M' : ev_M) (u : Nat → Int), fr [] [26] M M' → cuts G T r i j u → rk G (vC M) r j (gz G r).toNat u (gz G r).toNat ≤ k → k < rk G (vC M) r j (gz G r).toNat u (gz G r).toNat + rkB G (vC M) r u (gz G r).toNat → (∀ d : Nat, d ≤ (gz G r).toNat → aW_cut M' d = u d) → Q ((k - rk G (vC M) r j (gz G r).toNat u (gz G r).toNat : Nat) : Int) M') : m56 r nd (k : Int) M Q := by
  have gc := hG.1
  have hg := hG.2 r hr.1 hr.2
  have hz := hg.2.1
  obtain ⟨-, esz, esy⟩ := hC.2 r hr.1 hr.2
  have eI : nd / 11 % 11 = i := by omega
  have eJ : nd % 11 = j := by omega
  refine b56 (b37 ⟨⟨by omega, by omega⟩, ⟨by omega, by omega⟩, ?_⟩)
  rw [eI]
  refine lp (σ := (Int × Int) × ev_M) (n := gz G r) (c := fun d s => c56_19 r nd s.1.1 s.1.2 d s.2 Q) (P := fun d s => fr [] [26] M s.2 ∧ ∃ u : Nat → Int, u 0 = i ∧ (∀ d' : Nat, d' ≤ d.toNat → aW_cut s.2 d' = u d' ∧ i ≤ u d' ∧ u d' ≤ j) ∧ (∀ d' : Nat, d' < d.toNat → vC M (gs G r (d' : Int)) (u d') (u (d' + 1)) ≠ 0) ∧ rk G (vC M) r j (gz G r).toNat u d.toNat ≤ k ∧ s.1.1 = ((k - rk G (vC M) r j (gz G r).toNat u d.toNat : Nat) : Int) ∧ k - rk G (vC M) r j (gz G r).toNat u d.toNat < rkB G (vC M) r u d.toNat * rw' G (vC M) r j (gz G r).toNat ((gz G r).toNat - d.toNat) (u d.toNat) ∧ s.1.2 = ((min (rkB G (vC M) r u d.toNat) 1000000000 : Nat) : Int)) ?_ ?_ (r := 0) (s := (((k : Int), 1), ev_sA M 26 0 i)) (by omega) hz.1 ⟨fr.refl.sA (by decide), fun _ => i, rfl, fun d' hd => ?_, fun d' hd => by omega, Nat.zero_le _, rfl, ?_, rfl⟩
  · rintro d ⟨⟨X, B⟩, M1⟩ d0 d1 ⟨hf1, u, u0, hcut, hvn, hrk, hX, hlt, hB⟩ ih
    dsimp only at hf1 hcut hX hB ih ⊢
    have esz1 : aG_size M1 r.toNat = gz G r := (congrFun (hf1.2 3 (by decide)) _).trans esz
    have ecut := hcut d.toNat (Nat.le_refl _)
    have hsy := hg.2.2 d d0 d1
    have esd : ∀ M2 : ev_M, fr [] [26] M M2 → gR M2 r d = gs G r d := by
      intro M2 hf2
      show M2.2 4 _ = _
      rw [hf2.2 4 (by decide)]; exact esy d d0 d1
    have edn : ((d.toNat : Nat) : Int) = d := by omega
    have ezk : (gz G r).toNat - d.toNat = ((gz G r).toNat - (d.toNat + 1)) + 1 := by omega
    have erw : rw' G (vC M) r j (gz G r).toNat ((gz G r).toNat - d.toNat) (u d.toNat) = sumN (fun e => vC M (gs G r d) (u d.toNat) (e : Int) * rw' G (vC M) r j (gz G r).toNat ((gz G r).toNat - (d.toNat + 1)) (e : Int)) 11 := by
      rw [ezk]
      show sumN (fun e => vC M (gs G r (((gz G r).toNat - (((gz G r).toNat - (d.toNat + 1)) + 1) : Nat) : Int)) (u d.toNat) (e : Int) * rw' G (vC M) r j (gz G r).toNat ((gz G r).toNat - (d.toNat + 1)) (e : Int)) 11 = _
      rw [show (((gz G r).toNat - (((gz G r).toNat - (d.toNat + 1)) + 1) : Nat) : Int) = d by omega]
    obtain ⟨A, hA⟩ : ∃ A : Nat, A = rk G (vC M) r j (gz G r).toNat u d.toNat := ⟨_, rfl⟩
    obtain ⟨b, hb⟩ : ∃ b : Nat, b = rkB G (vC M) r u d.toNat := ⟨_, rfl⟩
    rw [← hA] at hrk hX hlt
    rw [← hb] at hlt hB
    refine b56_19 ⟨⟨hr.1, by omega⟩, fun g => absurd g (by rw [esz1]; omega), fun _ => ⟨⟨d0, by omega⟩, ?_⟩⟩
    rw [ecut.1]
    refine lp (σ := Int) (n := j + 1) (c := fun e X => c56_42 r nd X B d e M1 Q) (P := fun e X => u d.toNat ≤ e ∧ A + b * sumN (fun e => vC M (gs G r d) (u d.toNat) (e : Int) * rw' G (vC M) r j (gz G r).toNat ((gz G r).toNat - (d.toNat + 1)) (e : Int)) e.toNat ≤ k ∧ X = ((k - (A + b * sumN (fun e => vC M (gs G r d) (u d.toNat) (e : Int) * rw' G (vC M) r j (gz G r).toNat ((gz G r).toNat - (d.toNat + 1)) (e : Int)) e.toNat) : Nat) : Int)) ?_ ?_ (by omega) (by omega) ⟨Int.le_refl _, ?_, ?_⟩
    · rintro e X e0 e1 ⟨hue, hle, hX⟩ ihe
      obtain ⟨V, hV⟩ : ∃ V : Nat, V = vC M (gs G r d) (u d.toNat) e := ⟨_, rfl⟩
      obtain ⟨R, hR2⟩ : ∃ R : Nat, R = rw' G (vC M) r j (gz G r).toNat ((gz G r).toNat - (d.toNat + 1)) e := ⟨_, rfl⟩
      obtain ⟨S, hS⟩ : ∃ S : Nat, S = sumN (fun e => vC M (gs G r d) (u d.toNat) (e : Int) * rw' G (vC M) r j (gz G r).toNat ((gz G r).toNat - (d.toNat + 1)) (e : Int)) e.toNat := ⟨_, rfl⟩
      have enx : sumN (fun e => vC M (gs G r d) (u d.toNat) (e : Int) * rw' G (vC M) r j (gz G r).toNat ((gz G r).toNat - (d.toNat + 1)) (e : Int)) (e + 1).toNat = S + V * R := by
        rw [show (e + 1).toNat = e.toNat + 1 by omega, hS, hV, hR2]
        show _ + vC M (gs G r d) (u d.toNat) ((e.toNat : Nat) : Int) * rw' G (vC M) r j (gz G r).toNat ((gz G r).toNat - (d.toNat + 1)) ((e.toNat : Nat) : Int) = _
        rw [show ((e.toNat : Nat) : Int) = e by omega]
      rw [← hS] at hle hX
      have hmb : b * (S + V * R) = b * S + b * V * R := by rw [Nat.mul_add, Nat.mul_assoc]
      have hcn : aT_count M1 ((gs G r d * 11 + u d.toNat) * 11 + e).toNat = (V : Int) := by
        show M1.2 21 _ = _
        rw [hf1.2 21 (by decide), hV]
        exact vC_at hR hsy ⟨by omega, by omega⟩ ⟨by omega, by omega⟩
      have hre : aT_rest M1 ((d + 1) * 11 + e).toNat = ((min R 1000000000 : Nat) : Int) := by
        have h1 := (hW (d + 1) e (by omega) (by omega) (by omega) (by omega)).1
        rw [show (gz G r).toNat - (d + 1).toNat = (gz G r).toNat - (d.toNat + 1) by omega, ← hR2] at h1
        show M1.2 23 _ = _
        rw [hf1.2 23 (by decide)]; exact h1
      have hVle : V ≤ 1000000000 := by
        have := hR ((gs G r d * 11 + u d.toNat) * 11 + e).toNat (by omega)
        have h2 := vC_at hR hsy (p := u d.toNat) (e := e) ⟨by omega, by omega⟩ ⟨by omega, by omega⟩
        rw [← hV] at h2
        omega
      have hb1 := Nat.min_le_right b 1000000000
      have hb2 := Nat.min_le_right R 1000000000
      have hb3 := Nat.min_le_right (b * V) 1000000000
      have hp1 : min b 1000000000 * V ≤ 1000000000 * 1000000000 := Nat.mul_le_mul hb1 hVle
      have hp2 : min (b * V) 1000000000 * min R 1000000000 ≤ 1000000000 * 1000000000 := Nat.mul_le_mul hb3 hb2
      have e1' : B * aT_count M1 ((gs G r d * 11 + u d.toNat) * 11 + e).toNat = ((min b 1000000000 * V : Nat) : Int) := by
        rw [hcn, hB, Int.natCast_mul]
      refine b56_42 (b38 ⟨⟨by omega, by omega⟩, ?_⟩)
      rw [eJ]
      refine ⟨fun g => absurd g (by omega), fun _ => g_m4 ⟨hr.1, by omega⟩ ⟨d0, by omega⟩ ⟨⟨d0, by omega⟩, ?_⟩⟩
      rw [esd M1 hf1, ecut.1]
      refine g_m46 hsy ⟨by omega, by omega⟩ ⟨by omega, by omega⟩ ⟨⟨by omega, by omega⟩, ?_, ?_⟩
      · rw [e1']; exact ⟨by omega, by omega⟩
      · rw [e1']
        refine g_m49 ⟨⟨by omega, by omega⟩, ⟨by omega, by omega⟩, ⟨by omega, by omega⟩, ⟨by omega, by omega⟩, ?_, ?_⟩
        · rw [capm, hre]
          have : ((min (b * V) 1000000000 : Nat) : Int) * ((min R 1000000000 : Nat) : Int) = ((min (b * V) 1000000000 * min R 1000000000 : Nat) : Int) := (Int.natCast_mul _ _).symm
          rw [this]
          exact ⟨by omega, by omega⟩
        · rw [capm, hre]
          have e2' : ((min (b * V) 1000000000 : Nat) : Int) * ((min R 1000000000 : Nat) : Int) = ((min (b * V) 1000000000 * min R 1000000000 : Nat) : Int) := (Int.natCast_mul _ _).symm
          rw [e2']
          refine g_m49 ?_
          rw [capmm]
          refine ⟨fun hle2 => ⟨⟨by omega, by omega⟩, ⟨by omega, by omega⟩, ihe _ ⟨by omega, ?_, ?_⟩⟩, fun hgt => ⟨⟨by omega, by omega⟩, ⟨by omega, by omega⟩, b56_155 ⟨⟨by omega, by omega⟩, ih ((X, ((min (b * V) 1000000000 : Nat) : Int)), ev_sA M1 26 (d + 1).toNat e) ?_⟩⟩⟩
          · rw [enx, hmb]; omega
          · rw [enx, hmb]; omega
          · obtain ⟨u', hu'⟩ : ∃ u' : Nat → Int, ∀ d', u' d' = if d' = d.toNat + 1 then e else u d' := ⟨_, fun _ => rfl⟩
            have hsame : ∀ d' : Nat, d' ≤ d.toNat → u' d' = u d' := fun d' hd => by rw [hu', if_neg (by omega)]
            have hnew : u' (d.toNat + 1) = e := by rw [hu', if_pos rfl]
            have ed1 : (d + 1).toNat = d.toNat + 1 := by omega
            have erk : rk G (vC M) r j (gz G r).toNat u' (d.toNat + 1) = A + b * S := by
              show rk G (vC M) r j (gz G r).toNat u' d.toNat + rkB G (vC M) r u' d.toNat * sumN (fun e => vC M (gs G r ((d.toNat : Nat) : Int)) (u' d.toNat) (e : Int) * rw' G (vC M) r j (gz G r).toNat ((gz G r).toNat - (d.toNat + 1)) (e : Int)) (u' (d.toNat + 1)).toNat = _
              rw [rk_ext _ hsame, rkB_ext _ hsame, hsame _ (Nat.le_refl _), hnew, edn, ← hA, ← hb, ← hS]
            have erkB : rkB G (vC M) r u' (d.toNat + 1) = b * V := by
              show rkB G (vC M) r u' d.toNat * vC M (gs G r ((d.toNat : Nat) : Int)) (u' d.toNat) (u' (d.toNat + 1)) = _
              rw [rkB_ext _ hsame, hsame _ (Nat.le_refl _), hnew, edn, ← hb, ← hV]
            have hpos : k - (A + b * S) < b * V * R := by omega
            refine ⟨hf1.sA (by decide), u', by rw [hsame 0 (by omega)]; exact u0, fun d' hd => ?_, fun d' hd => ?_, ?_, ?_, ?_, ?_⟩
            · rw [ed1] at hd
              show (ev_sA M1 26 (d + 1).toNat e).2 26 d' = u' d' ∧ _
              rw [ed1]
              by_cases e2 : d' = d.toNat + 1
              · rw [e2, sA_same, hnew]
                exact ⟨rfl, by omega, by omega⟩
              · rw [sA_ne e2, hsame d' (by omega)]
                exact hcut d' (by omega)
            · rw [ed1] at hd
              by_cases e2 : d' = d.toNat
              · rw [e2, hsame _ (Nat.le_refl _), hnew, edn, ← hV]
                intro h0
                rw [h0, Nat.mul_zero, Nat.zero_mul] at hpos
                omega
              · rw [hsame d' (by omega), hsame (d' + 1) (by omega)]
                exact hvn d' (by omega)
            · rw [ed1, erk]; omega
            · rw [ed1, erk]; exact hX
            · rw [ed1, erk, erkB, hnew, ← hR2]; exact hpos
            · rw [ed1, erkB]
    · rintro X ⟨hue, hle, hX⟩
      exfalso
      have hfull : sumN (fun e => vC M (gs G r d) (u d.toNat) (e : Int) * rw' G (vC M) r j (gz G r).toNat ((gz G r).toNat - (d.toNat + 1)) (e : Int)) 11 = sumN (fun e => vC M (gs G r d) (u d.toNat) (e : Int) * rw' G (vC M) r j (gz G r).toNat ((gz G r).toNat - (d.toNat + 1)) (e : Int)) (j + 1).toNat := sumN_skip (by omega) (fun e e0 e1 => by rw [rw_hi hord _ _ (by omega), Nat.mul_zero])
      rw [erw, hfull] at hlt
      omega
    · rw [sumN_zero (fun e he => by rw [Decidable.byContradiction (fun hne => absurd (hord _ _ _ hne) (by omega)) (p := vC M (gs G r d) (u d.toNat) (e : Int) = 0), Nat.zero_mul]), Nat.mul_zero]
      omega
    · rw [sumN_zero (fun e he => by rw [Decidable.byContradiction (fun hne => absurd (hord _ _ _ hne) (by omega)) (p := vC M (gs G r d) (u d.toNat) (e : Int) = 0), Nat.zero_mul]), Nat.mul_zero, Nat.add_zero]
      exact hX
  · rintro ⟨⟨X, B⟩, M1⟩ ⟨hf1, u, u0, hcut, hvn, hrk, hX, hlt, hB⟩
    dsimp only at hf1 hcut hX hB ⊢
    have esz1 : aG_size M1 r.toNat = gz G r := (congrFun (hf1.2 3 (by decide)) _).trans esz
    rw [Nat.sub_self] at hlt
    have hlt2 : k - rk G (vC M) r j (gz G r).toNat u (gz G r).toNat < rkB G (vC M) r u (gz G r).toNat * (if u (gz G r).toNat = j then 1 else 0) := hlt
    have huz : u (gz G r).toNat = j := by
      refine Decidable.byContradiction (fun hne => ?_)
      rw [if_neg hne, Nat.mul_zero] at hlt2
      omega
    rw [if_pos huz, Nat.mul_one] at hlt2
    refine b56_19 ⟨⟨hr.1, by omega⟩, fun _ => ?_, fun g => absurd (by rw [esz1]; omega) g⟩
    rw [hX]
    exact h M1 u hf1 ⟨u0, huz, fun d hd => hon _ _ _ (hvn d hd)⟩ hrk (by omega) (fun d hd => (hcut d hd).1)
  · have e : d' = 0 := by
      have : (0 : Int).toNat = 0 := rfl
      omega
    rw [e]
    show (ev_sA M 26 0 i).2 26 0 = i ∧ _
    rw [sA_same]
    exact ⟨rfl, Int.le_refl _, hij.2.1⟩
  · show k - 0 < 1 * rw' G (vC M) r j (gz G r).toNat ((gz G r).toNat - 0) i
    rw [Nat.one_mul, Nat.sub_zero, Nat.sub_zero]
    exact hk
end CC2
