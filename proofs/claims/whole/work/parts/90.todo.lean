theorem iv_op13 : ∀ n M, n < 512 → Iv n M → op_13 (Iv (n + 1)) M := sorry
theorem iv_op14 : ∀ n M, n < 512 → Iv n M → op_14 (Iv (n + 1)) M := sorry
theorem iv_op15 : ∀ n M, n < 512 → Iv n M → op_15 (Iv (n + 1)) M := sorry
