/-! The class's grammar: a rule that is there already -/
def sameG (M : ev_M) (a b : Int) : Prop := aG_left M a.toNat = aG_left M b.toNat ∧ aG_size M a.toNat = aG_size M b.toNat ∧ ∀ i : Int, 0 ≤ i → i < aG_size M a.toNat → gR M a i = gR M b i
section GS
variable {M : ev_M} {Q : Int → ev_M → Prop} {a b n : Int}
theorem g_m8 (ha : 0 ≤ a ∧ a < 14) (hb : 0 ≤ b ∧ b < 14) (hs : aG_size M a.toNat ≤ 4) (h1 : sameG M a b → Q 1 M) (h0 : ¬ sameG M a b → Q 0 M) : m8 a b M Q := by
  refine b8 ⟨ha, hb, fun g => b8_30 (h0 (fun s => g s.1)), fun g => ⟨ha, hb, fun g2 => ?_, fun g2 => b8_30 (h0 (fun s => g2 s.2.1))⟩⟩
  have key : ∀ (d : Nat) (x : Int), aG_size M a.toNat - x ≤ d → 0 ≤ x → (∀ i : Int, 0 ≤ i → i < x → gR M a i = gR M b i) → c8_34 a b x M Q := by
    intro d
    induction d with
    | zero => intro x hx h0x he; exact b8_34 ⟨ha, fun _ => h1 ⟨Decidable.of_not_not g, g2, fun i h2 h3 => he i h2 (by omega)⟩, fun g => absurd g (by omega)⟩
    | succ d ih =>
      intro x hx h0x he
      refine b8_34 ⟨ha, fun _ => h1 ⟨Decidable.of_not_not g, g2, fun i h2 h3 => he i h2 (by omega)⟩, fun g3 => g_m4 ha ⟨h0x, by omega⟩ (g_m4 hb ⟨h0x, by omega⟩ ⟨fun g4 => ⟨⟨by omega, by omega⟩, ih (x + 1) (by omega) (by omega) (fun i h2 h3 => ?_)⟩, fun g4 => h0 (fun s => g4 (s.2.2 x h0x (by omega)))⟩)⟩
      by_cases hix : i < x
      · exact he i h2 hix
      · have : i = x := by omega
        subst this
        exact g4
  exact key (aG_size M a.toNat).toNat 0 (by omega) (by omega) (fun i h2 h3 => by omega)
theorem g_m9 (hn : 0 ≤ n ∧ n < 14) (hs : ∀ k : Int, 0 ≤ k → k < n → aG_size M k.toNat ≤ 4) (h1 : (∃ k : Int, 0 ≤ k ∧ k < n ∧ sameG M k n) → Q 1 M) (h0 : (∀ k : Int, 0 ≤ k → k < n → ¬ sameG M k n) → Q 0 M) : m9 n M Q := by
  have key : ∀ (d : Nat) (x : Int), n - x ≤ d → 0 ≤ x → (∀ k : Int, 0 ≤ k → k < x → ¬ sameG M k n) → c9_2 n x M Q := by
    intro d
    induction d with
    | zero => intro x hx h0x he; exact b9_2 ⟨fun _ => h0 (fun k h2 h3 => he k h2 (by omega)), fun g => absurd g (by omega)⟩
    | succ d ih =>
      intro x hx h0x he
      refine b9_2 ⟨fun _ => h0 (fun k h2 h3 => he k h2 (by omega)), fun g => g_m8 ⟨h0x, by omega⟩ hn (hs x h0x (by omega)) (fun s => ⟨fun g2 => absurd g2 (by decide), fun _ => h1 ⟨x, h0x, by omega, s⟩⟩) (fun s => ⟨fun _ => ⟨⟨by omega, by omega⟩, ih (x + 1) (by omega) (by omega) (fun k h2 h3 => ?_)⟩, fun g2 => absurd rfl g2⟩)⟩
      by_cases hkx : k < x
      · exact he k h2 hkx
      · have : k = x := by omega
        subst this
        exact s
  exact b9 (key n.toNat 0 (by omega) (by omega) (fun k h2 h3 => by omega))
end GS
theorem g_m11 {M : ev_M} {Q : ev_M → Prop} (hc : 0 < sG_count M ∧ sG_count M ≤ 14) (h : Q (ev_sS M 3 (sG_count M - 1))) : m11 M Q := b11 ⟨fun g => absurd g (by omega), fun _ => ⟨⟨by omega, by omega⟩, b11_17 h⟩⟩
