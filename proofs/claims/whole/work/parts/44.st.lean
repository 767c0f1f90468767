section LWH
theorem RG_0 : RG nSea nRow := by
  refine ⟨⟨rfl, rfl, rfl, ?_, ?_⟩, ⟨⟨by decide, by decide⟩, ?_, ?_⟩, ?_⟩
  · intro t k h0 h1 h2 h3
    rcases (show t = 0 ∨ t = 1 ∨ t = 2 ∨ t = 3 by omega) with rfl | rfl | rfl | rfl <;> rcases (show k = 0 ∨ k = 1 ∨ k = 2 ∨ k = 3 ∨ k = 4 by omega) with rfl | rfl | rfl | rfl | rfl <;> rfl
  · intro f k h0 h1
    exact absurd h1 (by have e : nSea 0 = 0 := rfl; omega)
  · unfold okS
    decide
  · intro f h0 h1
    exact absurd h1 (by have e : nSea 0 = 0 := rfl; omega)
  · intro t h0 h1
    rcases (show t = 0 ∨ t = 1 ∨ t = 2 ∨ t = 3 by omega) with rfl | rfl | rfl | rfl <;> decide
def zF : Nat → Int := fun _ => 0
theorem INV_0 : INV nSea zF (zF, zF, 0, 0, 0, -1, -1) (zF, zF, zF, zF, zF, zF, 1540) 0 0 nRow zF zF 0 := by
  have q : okC zF 0 := ⟨⟨by omega, by omega⟩, fun k hk => absurd hk (by omega)⟩
  refine ⟨RG_0, ⟨by omega, by omega⟩, fun i h0 h1 => absurd h1 (by omega), rfl, ⟨q, ⟨(by decide : (-1 : Int) ≤ -1), (by decide : (-1 : Int) ≤ 7)⟩⟩, rfl, q, ?_, ?_, fun _ _ => rfl⟩
  · intro k hk
    simp [zF]
  · intro k hk
    simp [zF]
end LWH
