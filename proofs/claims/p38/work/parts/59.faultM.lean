/-! ===== the reference's reading, and what it writes down ===== -/
/-- the speeches of the first k letters: those that are done and the one that goes on -/
def rdF (f : Nat → Int) : Nat → List (List Int) × List Int
  | 0 => ([], [])
  | k + 1 => if f k = 44 then ((rdF f k).1 ++ [(rdF f k).2], []) else ((rdF f k).1, (rdF f k).2 ++ [f k - 97])
