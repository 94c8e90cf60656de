theorem q_xok_all : ∀ (j : Nat) (z : q_MT), q_mt[j]? = some z → q_xok z = true := sorry
