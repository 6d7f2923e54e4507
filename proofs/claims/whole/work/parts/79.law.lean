/-! ===== the law, in the abstract machine ===== -/
def h00 (L : Nat) (xs : Nat → Int32) : Hp := (3, fun r => if r = 1 then (25, L) else if r = 2 then (26, 78) else (0, 0), fun r p => if r = 1 then (xs p).toInt else if r = 2 then (txB.getD p 0).toInt else 0)
theorem tx_N : ∀ i, i < 78 → (txB.getD i 0).toInt = (txN.getD i 0 : Int) := by decide +kernel
theorem law_wp (L : Nat) (hL : L ≤ 3072) (xs : Nat → Int32) : Wp 1000 0 [some (xR 1), none, none, none] [] (h00 L xs) 2000 600000 7302250 (fun rv _ => rv = some (xI 1)) := law_go hL rfl rfl ⟨rfl, fun i hi => tx_N i hi⟩
