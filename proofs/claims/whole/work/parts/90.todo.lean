theorem iv_op15 : ∀ n M, n < 512 → Iv n M → op_15 (Iv (n + 1)) M := sorry
