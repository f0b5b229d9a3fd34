theorem zk_all : ∀ mi, mi < 218 → okMt mi = true := sorry
