/-! OPEN: telling and teller (to be proved; then this part goes) -/
theorem s_telling {σ τ : px_M} (h : ST σ τ) (x : Int32) : stII σ τ (f_12035 tT σ 100 x) (f_98 tT τ 0 x) := sorry
theorem s_teller {σ τ : px_M} (h : ST σ τ) : stII σ τ (f_12036 tT σ 100) (f_99 tT τ 0) := sorry
