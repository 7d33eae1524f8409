/-! ===== the reference's send, sendStop ===== -/
abbrev okSend (w c p a s : Int) : Prop := (0 ≤ w ∧ w ≤ 5) ∧ (c = 98 ∨ c = 115) ∧ pv p ∧ (1 ≤ a ∧ a ≤ 99) ∧ (1 ≤ s ∧ s ≤ 99)
def tSend (S : zS) (N : Nat) (w c p a s : Int) : Int := if ¬ okSend w c p a s then 1 else if 60 ≤ many S N 97 + many S N 119 then 2 else 0
def sSend (S : zS) (N : Nat) (w c p a s : Int) : zS := sT (tSend S N w c p a s) S (soLoop (N + 1) 60 (comes (adds (zu S 12 24 0) N w c 0 p a s) (N + 1) N))
/-- a new order -/
theorem adds_J {S : zS} {N : Nat} {b w c t p a s : Int} (h : Jnv S N b) (hz : zI S N) (hN : N ≤ 900) (hw : 0 ≤ w ∧ w ≤ 5) (hc : c = 98 ∨ c = 115) (ht : 0 ≤ t ∧ t ≤ 300) (hp : pv p) (ha : 1 ≤ a ∧ a ≤ 99) (hs : 1 ≤ s ∧ s ≤ 99) (hf : many S N 97 + many S N 119 ≤ 59) : Jnv (adds S N w c t p a s) (N + 1) b ∧ zI (adds S N w c t p a s) (N + 1) := by
  sorry
