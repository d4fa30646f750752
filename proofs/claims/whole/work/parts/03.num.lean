/-! numbers of the printed walks as Nats: masks, bits, shifts -/
theorem cn_or (a b : Nat) : nI a ||| nI b = nI (a ||| b) := by
  apply Int32.toBitVec_inj.1
  show BitVec.ofNat 32 a ||| BitVec.ofNat 32 b = BitVec.ofNat 32 (a ||| b)
  apply BitVec.eq_of_getLsbD_eq
  intro i hi
  simp [hi]
theorem cn_andn {a : Nat} (ha : a < 65536) (b : Nat) : nI a &&& (nI b ^^^ (-1)) = nI (a &&& (65535 ^^^ b)) := by
  apply Int32.toBitVec_inj.1
  show BitVec.ofNat 32 a &&& (BitVec.ofNat 32 b ^^^ BitVec.ofNat 32 4294967295) = BitVec.ofNat 32 (a &&& (65535 ^^^ b))
  apply BitVec.eq_of_getLsbD_eq
  intro i hi
  rw [BitVec.getLsbD_and, BitVec.getLsbD_xor, BitVec.getLsbD_ofNat, BitVec.getLsbD_ofNat, BitVec.getLsbD_ofNat, BitVec.getLsbD_ofNat, Nat.testBit_and, Nat.testBit_xor]
  rw [show (4294967295 : Nat) = 2 ^ 32 - 1 from rfl, show (65535 : Nat) = 2 ^ 16 - 1 from rfl, Nat.testBit_two_pow_sub_one, Nat.testBit_two_pow_sub_one, decide_eq_true hi]
  rcases Nat.lt_or_ge i 16 with h | h
  · rw [decide_eq_true h]; simp
  · rw [cm_bge ha h]; simp
theorem cn_shl1 : ∀ i, i < 31 → (1 : Int32) <<< (nI i &&& 31) = nI (2 ^ i) := by decide +kernel
theorem cn_shr {s m : Nat} (hs : s < 2 ^ 31) (hm : m < 32) : nI s >>> (nI m &&& 31) = nI (s / 2 ^ m) := pk_shrN hs _ m (s_l m hm)
theorem cn_bit {s m : Nat} (hs : s < 2 ^ 31) (hm : m < 32) : (nI s >>> (nI m &&& 31)) &&& 1 = nI (if s.testBit m = true then 1 else 0) := by
  rw [cn_shr hs hm]
  show nI (s / 2 ^ m) &&& nI 1 = _
  rw [nx_and, Nat.and_one_is_mod, Nat.testBit_eq_decide_div_mod_eq]
  congr 1
  generalize s / 2 ^ m = z
  by_cases h : z % 2 = 1
  · rw [if_pos (decide_eq_true h), h]
  · rw [if_neg (by rw [decide_eq_true_eq]; exact h)]; omega
theorem cn_bit1 {s m : Nat} (hs : s < 2 ^ 31) (hm : m < 32) : (nI s >>> (nI m &&& 31)) &&& 1 = 1 ↔ s.testBit m = true := by
  rw [cn_bit hs hm]
  by_cases h : s.testBit m = true
  · rw [if_pos h]; exact ⟨fun _ => h, fun _ => rfl⟩
  · rw [if_neg h]; exact ⟨fun z => absurd z (by decide), fun z => absurd z h⟩
theorem cn_eq0 {a : Nat} (h : a < 2 ^ 31) : nI a = 0 ↔ a = 0 := by
  rw [← nI_0, nI_eq h (by omega)]
theorem cn_in {a : Nat} (x : Int32) (h0 : ¬ x < 0) (h : x < nI a) (ha : a < 2 ^ 31) : ∃ j : Nat, j < a ∧ x = nI j := by
  obtain ⟨j, hj, rfl⟩ := nI_of h0
  exact ⟨j, (nI_ltI hj ha).mp h, rfl⟩
