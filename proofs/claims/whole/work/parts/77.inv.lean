/-! What the program and the reference have in common between two calls -/
def shR (n low high boxes : Int32) (sets worths : Nat → Int32) (n' low' high' boxes' : Int32) (sets' worths' : Nat → Int32) : Prop :=
  ∃ N lo hi k : Nat, 1 ≤ N ∧ N ≤ 8 ∧ lo ≤ hi ∧ hi ≤ 8 ∧ k ≤ 16 ∧ (n = nI N ∧ n' = nI N) ∧ (low = nI lo ∧ low' = nI lo) ∧ (high = nI hi ∧ high' = nI hi) ∧ (boxes = nI k ∧ boxes' = nI k) ∧
  ∃ S V : Nat → Nat, (∀ j, j < k → S j < 2 ^ N ∧ V j ≤ 99 ∧ (sets j = nI (S j) ∧ sets' j = nI (S j)) ∧ (worths j = nI (V j) ∧ worths' j = nI (V j))) ∧ ∀ i j, i < k → j < k → S i = S j → i = j
def alR (a a' : Nat → Int32) : Prop := ∃ M : Nat → Nat, ∀ j, j < 8 → M j ≤ 9 ∧ a j = nI (M j) ∧ a' j = nI (M j)
def txR (text : Nat → Int32) (bytes : Int32) (text' : Nat → Int32) (size : Int32) : Prop :=
  ∃ k : Nat, k ≤ 200 ∧ bytes = nI k ∧ size = nI k ∧ ∃ B : Nat → Nat, ∀ j, j < k → B j < 256 ∧ text j = nI (B j) ∧ text' j = nI (B j)
def imR (i : Nat) (there n low high boxes : Int32) (sets worths alike : Nat → Int32) (images : Nat → Int32) : Prop :=
  (there = 0 ∧ images (48 * i) = 0) ∨ (there = 1 ∧ images (48 * i) = 1 ∧ shR n low high boxes sets worths (images (48 * i + 1)) (images (48 * i + 2)) (images (48 * i + 3)) (images (48 * i + 4)) (fun j => images (48 * i + 5 + j)) (fun j => images (48 * i + 21 + j)) ∧ alR alike (fun j => images (48 * i + 37 + j)))
def Inv (n low high boxes : Int32) (sets worths alike text : Nat → Int32) (bytes : Int32) (above below : Int64) (bad no full : Int32)
    (t0 n0 l0 h0 b0 : Int32) (s0 w0 k0 : Nat → Int32) (t1 n1 l1 h1 b1 : Int32) (s1 w1 k1 : Nat → Int32)
    (n' low' high' boxes' : Int32) (box' worth' alike' text' : Nat → Int32) (size' : Int32) (above' below' : Int64) (refused' images' : Nat → Int32) : Prop :=
  shR n low high boxes sets worths n' low' high' boxes' box' worth' ∧ alR alike alike' ∧ txR text bytes text' size' ∧ (above = above' ∧ below = below') ∧ (bad = refused' 0 ∧ no = refused' 1 ∧ full = refused' 2) ∧
  imR 0 t0 n0 l0 h0 b0 s0 w0 k0 images' ∧ imR 1 t1 n1 l1 h1 b1 s1 w1 k1 images'
theorem lg_eq {a b : Int64} (h : a = b) : lg_cmp a b = 0 := by subst h; simp [lg_cmp]
