/-! ===== the texts' own methods ===== -/
theorem k_J_length {g : Ctx} {n : Nat} {M : Mem} {Q : Int → Mem → Prop} {i : Nat} (hi : i < 4) (h : Q ((sLen.getD i 0 : Nat) : Int) M) : K_J_length g n i M Q := sorry
