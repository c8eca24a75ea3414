/-! row: all cases, by the kernel -/
def rowOK (N z : Nat) : Bool :=
  match M_X8_matchedSorts (nI z) (nI N), M_X9_matched (nI N) (nI z) with
  | some a, some b => (a == b) &&
    (((((((1 : Int32) <<< (nI N &&& 31)) - (1 : Int32)) &&& (a ^^^ (-1 : Int32))) &&& (nI z ^^^ (-1 : Int32))) == 0) ||
      (M_X9_withFirst (nI z) (((((1 : Int32) <<< (nI N &&& 31)) - (1 : Int32)) &&& (a ^^^ (-1 : Int32))) &&& (nI z ^^^ (-1 : Int32))) (1 : Int32) == some (nI z ||| ((((((1 : Int32) <<< (nI N &&& 31)) - (1 : Int32)) &&& (a ^^^ (-1 : Int32))) &&& (nI z ^^^ (-1 : Int32))) &&& (-(((((1 : Int32) <<< (nI N &&& 31)) - (1 : Int32)) &&& (a ^^^ (-1 : Int32))) &&& (nI z ^^^ (-1 : Int32)))))))) &&
    (match M_J6_bitCount_0f7a4 (nI z &&& a), M_X9_many (nI z &&& a) with
      | some c, some d => (c == d) && (match M_X8_lowestBits ((((1 : Int32) <<< (nI N &&& 31)) - (1 : Int32)) &&& (a ^^^ (-1 : Int32))) ((nI N / (2 : Int32)) - c), M_X9_withFirst (nI z &&& a) ((((1 : Int32) <<< (nI N &&& 31)) - (1 : Int32)) &&& (a ^^^ (-1 : Int32))) ((nI N / (2 : Int32)) - c) with
        | some u, some v => ((nI z &&& a) ||| u) == v
        | _, _ => false)
      | _, _ => false) &&
    (match M_J6_bitCount_0f7a4 ((((1 : Int32) <<< (nI N &&& 31)) - (1 : Int32)) &&& (a ^^^ (-1 : Int32))), M_X9_many ((((1 : Int32) <<< (nI N &&& 31)) - (1 : Int32)) &&& (a ^^^ (-1 : Int32))) with
      | some c, some d => c == d
      | _, _ => false)
  | _, _ => false
theorem row_a : ∀ N, N < 8 → ∀ z, z < 2 ^ N → rowOK N z = true := by decide +kernel
theorem row_b : ∀ z, z < 256 → rowOK 8 z = true := by decide +kernel
theorem row_all {N z : Nat} (hN : N ≤ 8) (hz : z < 2 ^ N) : rowOK N z = true := by
  rcases Nat.lt_or_ge N 8 with h | h
  · exact row_a N h z hz
  · have h8 : N = 8 := by omega
    subst h8
    exact row_b z hz
