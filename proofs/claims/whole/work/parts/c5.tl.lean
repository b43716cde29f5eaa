/-! The model: telling the rules of a tree -/
section TL
variable {G : gT} {n : Int} {w : Int → Int} {T : Int → Int → Int → Bool} {v : Int → Int → Int → Nat} {ρ : Int → Int → Int → Int} {M M' : ev_M}
/-- what is told of the rules L: how many, or the one at x -/
def tld (L : List Int) (x : Int) : Int := if x < 0 then (L.length : Int) else (L[x.toNat]?).getD (-1)
theorem g_m137 {Q : Int → ev_M → Prop} {k : Nat} {x : Int} {L : List Int} (hG : okG G) (hT : okT n w) (hD : isD G n w T) (hV : VF G n T v ρ) (hM : isM G M) (hY : isY n w M) (hP : PAR G n w M) (hmV : mV G n T v M) (hk : k < 1000000000) (hTR : TR G n T v 0 0 n k L) (h : ∀ M' : ev_M, fr (25 :: itS0) [44, 45] M M' → Q (tld L x) M') : m137 (k : Int) x M Q := by
  have hn := hT.1
  have hρ := hV.2.2.2.2
  -- the loop
  have key : ∀ (N : Nat) (M1 : ev_M) (es : List ent) (q : Nat), (flat es).length ≤ N → fr (25 :: itS0) [44, 45] M M1 → stM G n T v ρ M1 es → sM_waiting M1 = (es.length : Int) → L.drop q = flat es → q ≤ L.length → (0 ≤ x → (q : Int) ≤ x) → c137_25 x (q : Int) M1 Q := by
    intro N
    induction N with
    | zero =>
      intro M1 es q hN hf1 hs1 hw1 hR hq hxq
      cases es with
      | nil =>
        have hlen : L.length = q := by
          have := congrArg List.length hR
          rw [List.length_drop] at this
          have h2 : (flat []).length = 0 := rfl
          omega
        have hw0 : sM_waiting M1 = 0 := hw1
        refine b137_25 ⟨fun _ => ⟨fun h0 => b137_102 ?_, fun h0 => b137_102 ?_⟩, fun g => absurd (by omega) g⟩
        · have := h M1 hf1
          unfold tld at this
          rw [if_neg (by omega), List.getElem?_eq_none (by have := hxq h0; omega)] at this
          exact this
        · have := h M1 hf1
          unfold tld at this
          rw [if_pos (by omega), hlen] at this
          exact this
      | cons e es =>
        have h1 := hs1.2.2.1.size hG hT hD hV
        have h2 : (flat (e :: es)).length = e.2.2.2.2.length + (flat es).length := List.length_append
        omega
    | succ N ih =>
      intro M1 es q hN hf1 hs1 hw1 hR hq hxq
      cases es with
      | nil =>
        have hlen : L.length = q := by
          have := congrArg List.length hR
          rw [List.length_drop] at this
          have h2 : (flat []).length = 0 := rfl
          omega
        have hw0 : sM_waiting M1 = 0 := hw1
        refine b137_25 ⟨fun _ => ⟨fun h0 => b137_102 ?_, fun h0 => b137_102 ?_⟩, fun g => absurd (by omega) g⟩
        · have := h M1 hf1
          unfold tld at this
          rw [if_neg (by omega), List.getElem?_eq_none (by have := hxq h0; omega)] at this
          exact this
        · have := h M1 hf1
          unfold tld at this
          rw [if_pos (by omega), hlen] at this
          exact this
      | cons e es =>
        obtain ⟨m, i, j, k1, L1⟩ := e
        obtain ⟨a1, a2, a3, a4, a5, a6⟩ := hs1
        dsimp only at a1 a2 a3 a4 a5
        obtain ⟨r, u, Ls, hu, hr, hl, hc, hS1, hS2, hch, hL1⟩ := a3.inv
        have hrg := hu.rng hG hT hD
        have hρm := (hρ m i j hu).1
        have hsz := (a3.size hG hT hD hV).2.2
        have hszb := szB_le (l := j - i) (p := ρ m i j - 6 * (j - i)) (by omega) (by omega)
        rw [List.length_cons] at hw1
        have hpos : (sM_waiting M1 - 1).toNat = es.length := by omega
        have eflat : flat ((m, i, j, k1, L1) :: es) = r :: (cat Ls (gz G r).toNat ++ flat es) := by
          show L1 ++ flat es = _
          rw [hL1]; rfl
        rw [eflat] at hR hN
        have hqlt : q < L.length := by
          have := congrArg List.length hR
          rw [List.length_drop, List.length_cons] at this
          omega
        have hget : L[q]? = some r := by
          have := congrArg (fun l => l[0]?) hR
          rw [List.getElem?_drop] at this
          exact this
        have hnext : L.drop (q + 1) = cat Ls (gz G r).toNat ++ flat es := by
          have := congrArg List.tail hR
          rw [List.tail_drop] at this
          exact this
        have hlenb : (L.length : Int) ≤ 466944 := by
          have h1 := (hTR.size hG hT hD hV)
          have hr0 := h1.1.rng hG hT hD
          have hρ0 := (hρ _ _ _ h1.1).1
          have := szB_le (l := n - 0) (p := ρ 0 0 n - 6 * (n - 0)) (by omega) (by omega)
          omega
        have hbnd : (es.length : Int) < 199 := by omega
        refine b137_25 ⟨fun g => absurd g (by omega), fun _ => ⟨⟨by omega, by omega⟩, ⟨by omega, by omega⟩, ⟨by omega, by omega⟩, ?_⟩⟩
        rw [hpos, a1, a2]
        have hM2 : isM G (ev_sS M1 25 (sM_waiting M1 - 1)) := hM.of (hf1.1 11 (by decide)) (hf1.2 31 (by decide)) (hf1.2 32 (by decide)) (hf1.2 33 (by decide))
        have hP2 : PAR G n w (ev_sS M1 25 (sM_waiting M1 - 1)) := hP.of (hf1.2 39 (by decide))
        have hmV2 : mV G n T v (ev_sS M1 25 (sM_waiting M1 - 1)) := hmV.of (hf1.2 41 (by decide)) (hf1.2 42 (by decide))
        refine g_m135 hG hT hD hV hM2 hP2 hmV2 hu rfl a4 hr hl hc hS1 hS2 (fun M3 hf3 hI3 hr3 hF3 hc3 => ?_)
        have erule := (cur_cdu hG hT hD ⟨by omega, by omega, by omega⟩ hr hc hI3 hr3 hc3).1
        clear hF3
        have hf13 : fr (25 :: itS0) [44, 45] M M3 := (hf1.sS (by decide)).trans (hf3.mono (by decide) (by decide))
        refine ⟨fun hne => ⟨⟨by omega, by omega⟩, ?_⟩, fun heq => ?_⟩
        · have hM3 : isM G M3 := hM.of (hf13.1 11 (by decide)) (hf13.2 31 (by decide)) (hf13.2 32 (by decide)) (hf13.2 33 (by decide))
          have hmV3 : mV G n T v M3 := hmV.of (hf13.2 41 (by decide)) (hf13.2 42 (by decide))
          have hs3 : stM G n T v ρ M3 es := a6.of es (fun q _ => ⟨congrFun (hf3.2 44 (by decide)) q, congrFun (hf3.2 45 (by decide)) q⟩)
          have hw3 : sM_waiting M3 = (es.length : Int) := by
            have h1 : sM_waiting M3 = sM_waiting M1 - 1 := hf3.1 25 (by decide)
            omega
          refine g_m136 hG hT hD hV hM3 hmV3 hu hI3 hr3 hr hl hc hc3 (by omega) (by omega) hch hs3 hw3 a5 (fun M4 es4 hf4 hs4 hw4 hfl4 => ?_)
          have := ih M4 es4 (q + 1) (by rw [hfl4]; rw [List.length_cons] at hN; omega) (hf13.trans (hf4.mono (by decide) (by decide))) hs4 hw4 (by rw [hfl4]; exact hnext) (by omega) (fun h0 => by have := hxq h0; omega)
          exact this
        · have hx : (q : Int) = x := Decidable.of_not_not heq
          have h1 := h M3 hf13
          unfold tld at h1
          rw [if_neg (by omega), show x.toNat = q by omega, hget] at h1
          rw [erule]
          exact h1
  have hz := hTR.size hG hT hD hV
  have hr0 := hz.1.rng hG hT hD
  have hρ0 := (hρ _ _ _ hz.1).1
  refine b137 ?_
  have e12 := hY.1
  have := key L.length (ev_sA (ev_sA (ev_sS M 25 1) 44 0 (sM_length M)) 45 0 (k : Int)) [(0, 0, n, k, L)] 0 (by show (L ++ []).length ≤ _; rw [List.append_nil]; omega) (((fr.refl.sS (by decide)).sA (by decide)).sA (by decide)) ⟨?_, ?_, hTR, hk, ?_, trivial⟩ rfl (by show _ = L ++ []; rw [List.append_nil]; rfl) (by omega) (fun h0 => by omega)
  · exact this
  · show (ev_sA (ev_sS M 25 1) 44 0 (sM_length M)).2 44 0 = 121 * 0 + 11 * 0 + n
    rw [sA_same]; omega
  · show (ev_sA (ev_sA (ev_sS M 25 1) 44 0 (sM_length M)) 45 0 (k : Int)).2 45 0 = (k : Int)
    exact sA_same
  · show ((0 : Nat) : Int) + 3 * (ρ 0 0 n + 1) + 1 ≤ 199
    omega
end TL
