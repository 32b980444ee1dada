/-! The reference: deliver, noteMessage, asks, answer. -/
section MQ
variable {z : xzs} {h : xH} {m : Nat} {s : mS}
def mDelOk (s : mS) (to g : Nat) : Prop := 0 < g ∧ ¬ s 12 g = 0 ∧ 0 ≤ s 27 to ∧ ¬ s 6 (vN (s 41 to) / 8) = 0 ∧ s 14 (vN (s 41 to)) = 0
instance mDelOk_dec (s : mS) (to g : Nat) : Decidable (mDelOk s to g) := by unfold mDelOk; infer_instance
