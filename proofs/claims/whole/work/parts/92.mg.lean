/-! The model's rules: a rule that is there already -/
abbrev mR (M : ev_M) (r i : Int) : Int := aM_right M (4 * r + i).toNat
def sameM (M : ev_M) (a b : Int) : Prop := aM_left M a.toNat = aM_left M b.toNat ∧ aM_sizes M a.toNat = aM_sizes M b.toNat ∧ ∀ i : Int, 0 ≤ i → i < aM_sizes M b.toNat → mR M a i = mR M b i
section MG
variable {M : ev_M} {Q : Int → ev_M → Prop} {r n : Int}
theorem g_m94 (h1 : 0 ≤ r ∧ r < 10 → Q 1 M) (h0 : ¬ (0 ≤ r ∧ r < 10) → Q 0 M) : m94 r M Q :=
  b94 ⟨fun g => b94_14 (b94_15 ⟨Or.inl rfl, h0 (by omega)⟩), fun g => ⟨fun g2 => b94_14 (b94_15 ⟨Or.inl rfl, h0 (by omega)⟩), fun g2 => b94_15 ⟨Or.inr rfl, h1 (by omega)⟩⟩⟩
theorem g_m95 (h1 : 0 ≤ r ∧ r < 6 → Q 1 M) (h0 : ¬ (0 ≤ r ∧ r < 6) → Q 0 M) : m95 r M Q :=
  b95 ⟨fun g => b95_14 (b95_15 ⟨Or.inl rfl, h0 (by omega)⟩), fun g => ⟨fun g2 => b95_14 (b95_15 ⟨Or.inl rfl, h0 (by omega)⟩), fun g2 => b95_15 ⟨Or.inr rfl, h1 (by omega)⟩⟩⟩
theorem g_c96_49 (hn : 0 ≤ n ∧ n < 14) {a f : Int} (ha : 0 ≤ a ∧ a < 14) (hs : aM_sizes M n.toNat ≤ 4) : ∀ (d : Nat) (x4 x5 : Int), aM_sizes M n.toNat - x5 ≤ d → 0 ≤ x5 →
    (((¬ f = 0 ∨ (¬ x4 = 0 ∧ ∀ i : Int, x5 ≤ i → i < aM_sizes M n.toNat → mR M a i = mR M n i)) → c96_117 n a 1 M Q) ∧ (¬ (¬ f = 0 ∨ (¬ x4 = 0 ∧ ∀ i : Int, x5 ≤ i → i < aM_sizes M n.toNat → mR M a i = mR M n i)) → c96_117 n a 0 M Q)) → c96_49 n f a x4 x5 M Q := by
  have done : ∀ x4 x5 : Int, aM_sizes M n.toNat ≤ x5 → (((¬ f = 0 ∨ (¬ x4 = 0 ∧ ∀ i : Int, x5 ≤ i → i < aM_sizes M n.toNat → mR M a i = mR M n i)) → c96_117 n a 1 M Q) ∧ (¬ (¬ f = 0 ∨ (¬ x4 = 0 ∧ ∀ i : Int, x5 ≤ i → i < aM_sizes M n.toNat → mR M a i = mR M n i)) → c96_117 n a 0 M Q)) → ((¬ f = 0 → (c96_112 n a M Q)) ∧ (¬ (¬ f = 0) → ((x4 = 0 → (c96_117 n a 0 M Q)) ∧ (¬ (x4 = 0) → (c96_112 n a M Q))))) := by
    intro x4 x5 hle h
    refine ⟨fun g => b96_112 (h.1 (Or.inl g)), fun g => ⟨fun g2 => h.2 (fun q => ?_), fun g2 => b96_112 (h.1 (Or.inr ⟨g2, fun i h1 h2 => by omega⟩))⟩⟩
    rcases q with q | q
    · exact g q
    · exact q.1 g2
  intro d
  induction d with
  | zero =>
    intro x4 x5 hd h0 h
    exact b96_49 ⟨hn, fun g => done x4 x5 g h, fun g => absurd g (by omega)⟩
  | succ d ih =>
    intro x4 x5 hd h0 h
    refine b96_49 ⟨hn, fun g => done x4 x5 g h, fun g => ⟨fun g2 => ?_, fun g2 => ⟨⟨by omega, by omega⟩, ⟨by omega, by omega⟩, ⟨by omega, by omega⟩, ⟨by omega, by omega⟩, ⟨by omega, by omega⟩, ⟨by omega, by omega⟩, fun g3 => ?_, fun g3 => ?_⟩⟩⟩
    · refine b96_94 (b96_95 ⟨⟨by omega, by omega⟩, ih 0 (x5 + 1) (by omega) (by omega) ⟨fun q => h.1 ?_, fun q => h.2 ?_⟩⟩)
      · rcases q with q | q
        · exact Or.inl q
        · exact absurd rfl q.1
      · rintro (q2 | q2)
        · exact q (Or.inl q2)
        · exact q2.1 g2
    · refine b96_94 (b96_95 ⟨⟨by omega, by omega⟩, ih 0 (x5 + 1) (by omega) (by omega) ⟨fun q => h.1 ?_, fun q => h.2 ?_⟩⟩)
      · rcases q with q | q
        · exact Or.inl q
        · exact absurd rfl q.1
      · rintro (q2 | q2)
        · exact q (Or.inl q2)
        · exact g3 (q2.2 x5 (by omega) (by omega))
    · refine b96_95 ⟨⟨by omega, by omega⟩, ih 1 (x5 + 1) (by omega) (by omega) ⟨fun q => h.1 ?_, fun q => h.2 ?_⟩⟩
      · rcases q with q | q
        · exact Or.inl q
        · refine Or.inr ⟨g2, fun i h1 h2 => ?_⟩
          by_cases hi : i = x5
          · subst hi; exact Decidable.of_not_not g3
          · exact q.2 i (by omega) h2
      · rintro (q2 | q2)
        · exact q (Or.inl q2)
        · exact q (Or.inr ⟨by decide, fun i h1 h2 => q2.2 i (by omega) h2⟩)
/-- whether a rule before n is like n -/
theorem g_m96 (hn : 0 ≤ n ∧ n < 14) (hs : aM_sizes M n.toNat ≤ 4) (h1 : (∃ k : Int, 0 ≤ k ∧ k < n ∧ sameM M k n) → Q 1 M) (h0 : (∀ k : Int, 0 ≤ k → k < n → ¬ sameM M k n) → Q 0 M) : m96 n M Q := by
  have key : ∀ (d : Nat) (f x : Int), n - x ≤ d → 0 ≤ x → ((f = 1 ∧ ∃ k : Int, 0 ≤ k ∧ k < x ∧ sameM M k n) ∨ (f = 0 ∧ ∀ k : Int, 0 ≤ k → k < x → ¬ sameM M k n)) → x ≤ n → c96_4 n f x M Q := by
    intro d
    induction d with
    | zero =>
      intro f x hd h0x hf hxn
      refine b96_4 ⟨fun _ => ?_, fun g => absurd g (by omega)⟩
      rcases hf with ⟨rfl, k, k1, k2, k3⟩ | ⟨rfl, hk⟩
      · exact ⟨Or.inr rfl, h1 ⟨k, k1, by omega, k3⟩⟩
      · exact ⟨Or.inl rfl, h0 (fun k a1 a2 => hk k a1 (by omega))⟩
    | succ d ih =>
      intro f x hd h0x hf hxn
      refine b96_4 ⟨fun g => ?_, fun g => ?_⟩
      · rcases hf with ⟨rfl, k, k1, k2, k3⟩ | ⟨rfl, hk⟩
        · exact ⟨Or.inr rfl, h1 ⟨k, k1, by omega, k3⟩⟩
        · exact ⟨Or.inl rfl, h0 (fun k a1 a2 => hk k a1 (by omega))⟩
      · have hx : 0 ≤ x ∧ x < 14 := ⟨h0x, by omega⟩
        -- what comes behind the comparison of x with n
        have go : ∀ t : Int, ((t = 1 ∧ ∃ k : Int, 0 ≤ k ∧ k < x + 1 ∧ sameM M k n) ∨ (t = 0 ∧ ∀ k : Int, 0 ≤ k → k < x + 1 → ¬ sameM M k n)) → c96_117 n x t M Q := fun t ht => b96_117 ⟨⟨by omega, by omega⟩, ih t (x + 1) (by omega) (by omega) ht (by omega)⟩
        have old : ¬ f = 0 → ∃ k : Int, 0 ≤ k ∧ k < x + 1 ∧ sameM M k n := by
          intro g2
          rcases hf with ⟨-, k, k1, k2, k3⟩ | ⟨h, -⟩
          · exact ⟨k, k1, by omega, k3⟩
          · exact absurd h g2
        have new : ¬ sameM M x n → ¬ ¬ f = 0 → ∀ k : Int, 0 ≤ k → k < x + 1 → ¬ sameM M k n := by
          intro g2 g3 k a1 a2
          rcases hf with ⟨h, -⟩ | ⟨-, hk⟩
          · exact absurd (by omega : ¬ f = 0) g3
          · by_cases hkx : k = x
            · subst hkx; exact g2
            · exact hk k a1 (by omega)
        have diff : ¬ sameM M x n → c96_43 n f x M Q := fun g2 => b96_43 (b96_44 (g_c96_49 hn hx hs _ 0 0 (by omega : aM_sizes M n.toNat - 0 ≤ ((4 : Nat) : Int)) (by omega) ⟨fun q => go 1 (Or.inl ⟨rfl, by
          rcases q with q | q
          · exact old q
          · exact absurd rfl q.1⟩), fun q => go 0 (Or.inr ⟨rfl, new g2 (fun g3 => q (Or.inl g3))⟩)⟩))
        refine ⟨hx, hn, fun g2 => diff (fun s => g2 s.1), fun g2 => ⟨hx, hn, fun g3 => diff (fun s => g3 s.2.1), fun g3 => ?_⟩⟩
        refine b96_44 (g_c96_49 hn hx hs _ 1 0 (by omega : aM_sizes M n.toNat - 0 ≤ ((4 : Nat) : Int)) (by omega) ⟨fun q => go 1 (Or.inl ⟨rfl, ?_⟩), fun q => go 0 (Or.inr ⟨rfl, ?_⟩)⟩)
        · rcases q with q | q
          · exact old q
          · exact ⟨x, h0x, by omega, Decidable.of_not_not g2, Decidable.of_not_not g3, fun i a1 a2 => q.2 i a1 a2⟩
        · exact new (fun s => q (Or.inr ⟨by decide, fun i a1 a2 => s.2.2 i a1 a2⟩)) (fun g4 => q (Or.inl g4))
  exact b96 (key n.toNat 0 0 (by omega) (by omega) (Or.inr ⟨rfl, fun k a1 a2 => by omega⟩) (by omega))
end MG
