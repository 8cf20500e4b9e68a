/-! ===== subsets of a set of at most nine, by program ===== -/
def lb (S : Nat) : Nat := S &&& (4294967296 - S)
def subs (rest : Nat) : Nat → Nat → List Nat
  | 0, _ => []
  | n + 1, o => o :: subs rest n ((o + 4294967296 - rest) &&& rest)
/-- the POOLS of the first PERSON of S within S, from the least on -/
def PL (S : Nat) : List Nat := (subs (dif S (lb S)) (2 ^ popc (dif S (lb S))) 0).map (fun o => lb S ||| o)
def plM (S : Nat) : List Nat := (List.range' (lb S) (S + 1 - lb S)).filter (fun q => (q &&& lb S) != 0 && dif q S == 0)
set_option maxRecDepth 100000 in
theorem pl_all : (List.range 512).all (fun S => decide (S = 0 ∨ (lb S < 512 ∧ 0 < lb S ∧ lb S ≤ S ∧ dif S (lb S) < S ∧ popc (dif S (lb S)) + 1 = popc S ∧ plM S = PL S))) = true := by decide +kernel
set_option maxRecDepth 100000 in
theorem pl_mem : (List.range 512).all (fun S => decide (S = 0 ∨ ((PL S).all (fun q => decide (0 < q ∧ q < 512 ∧ dif q S = 0 ∧ dif S q < S ∧ popc (dif S q) + popc q = popc S ∧ q ≤ S))) = true)) = true := by decide +kernel
theorem lb_neg : (List.range 512).all (fun S => decide (nI S &&& (-(nI S)) = nI (lb S))) = true := by decide +kernel
theorem pl1 {S : Nat} (h0 : 0 < S) (h : S < 512) : lb S < 512 ∧ 0 < lb S ∧ lb S ≤ S ∧ dif S (lb S) < S ∧ popc (dif S (lb S)) + 1 = popc S ∧ plM S = PL S := by
  rcases of_decide_eq_true (all_lt pl_all S h) with g | g
  · omega
  · exact g
theorem pl2 {S q : Nat} (h0 : 0 < S) (h : S < 512) (hq : q ∈ PL S) : 0 < q ∧ q < 512 ∧ dif q S = 0 ∧ dif S q < S ∧ popc (dif S q) + popc q = popc S ∧ q ≤ S := by
  rcases of_decide_eq_true (all_lt pl_mem S h) with g | g
  · omega
  · exact of_decide_eq_true (List.all_eq_true.mp g q hq)
theorem lbI {S : Nat} (h : S < 512) : nI S &&& (-(nI S)) = nI (lb S) := of_decide_eq_true (all_lt lb_neg S h)
theorem nI_wrap (n : Nat) : nI (n + 4294967296) = nI n := by
  apply Int32.toBitVec_inj.mp
  show BitVec.ofNat 32 (n + 4294967296) = BitVec.ofNat 32 n
  apply BitVec.eq_of_toNat_eq
  rw [BitVec.toNat_ofNat, BitVec.toNat_ofNat]
  omega
theorem sub_step {o r : Nat} (ho : o < 512) (hr : r < 512) : (nI o - nI r) &&& nI r = nI ((o + 4294967296 - r) &&& r) := by
  rw [← nI_wrap o, pk_sub (by omega), nI_and]
