theorem gm_law : ∀ (L : Nat) (xs : Nat → Int32), L ≤ 3072 → Go L xs 199 0 [some (.retAddr 0), none, none, none] [] gm_h0 0 0 (fun v _ => v = .int 1) := sorry
