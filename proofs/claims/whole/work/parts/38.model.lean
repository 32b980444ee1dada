/-! The reference: what an action looks at, with its scratch fields (0 code, 32 pile, 33 piled, 38 at, 39 cap, 40 goal) hidden. -/
section MH
variable {z : xzs} {h : xH} {m : Nat} {s : mS}
/-- the same but for scratch -/
def mEq (s s' : mS) : Prop := ∀ f, (f ≠ 0 ∧ f ≠ 32 ∧ f ≠ 33 ∧ f ≠ 38 ∧ f ≠ 39 ∧ f ≠ 40) → s' f = s f
theorem mEq.rf (s : mS) : mEq s s := fun _ _ => rfl
theorem mEq.trans {a b c : mS} (h1 : mEq a b) (h2 : mEq b c) : mEq a c := fun f hf => (h2 f hf).trans (h1 f hf)
theorem mEq.sc {s σ : mS} (e : mEq s σ) {f : Nat} (hf : f = 0 ∨ f = 32 ∨ f = 33 ∨ f = 38 ∨ f = 39 ∨ f = 40) (j : Nat) (v : Int32) : mEq s (sS σ f j v) := fun g hg => by
  rw [sS_ne σ j v (by omega)]
  exact e g hg
/-- a real change goes through -/
theorem mEq.sS {s σ : mS} (e : mEq s σ) (f j : Nat) (v : Int32) : mEq (sS s f j v) (sS σ f j v) := fun g hg => by
  by_cases hf : g = f
  · subst hf
    rw [sS_upd, sS_upd, e g hg]
  · rw [sS_ne σ j v hf, sS_ne s j v hf]
    exact e g hg
theorem mEq.wf {s σ : mS} (e : mEq s σ) (W : mWF s) : mWF σ := ⟨fun i hi => by rw [e 14 (by decide)]; exact W.1 i hi, fun c hc => by rw [e 8 (by decide)]; exact W.2 c hc⟩
theorem mEq.now {s σ : mS} (e : mEq s σ) : mNow σ = mNow s := by
  unfold mNow mNowStep
  rw [e 15 (by decide), e 20 (by decide), e 21 (by decide)]
theorem mEq.place {s σ : mS} (e : mEq s σ) (t a : Nat) : mPlace σ t a = mPlace s t a := by
  unfold mPlace
  rw [e 14 (by decide), e 8 (by decide), e 1 (by decide)]
theorem mEq.capa {s σ : mS} (e : mEq s σ) (t a : Nat) : mCapa σ t a = mCapa s t a := by
  unfold mCapa
  rw [e.place, e 14 (by decide)]
theorem mEq.wait {s σ : mS} (e : mEq s σ) (o x y : Int32) : mWaiting σ o x y = mWaiting s o x y := by
  unfold mWaiting mWtStep
  rw [e 15 (by decide), e 22 (by decide), e 23 (by decide)]
theorem mEq.ready {s σ : mS} (e : mEq s σ) (t : Nat) : mEq (mReady s t) (mReady σ t) := by
  unfold mReady
  rw [e 31 (by decide)]
  exact ((e.sS _ _ _).sS _ _ _).sS _ _ _
theorem mEq.comes {s σ : mS} (e : mEq s σ) (t : Nat) (w b a : Int32) : mEq (mComes s t w b a) (mComes σ t w b a) := (((e.sS _ _ _).sS _ _ _).sS _ _ _).sS _ _ _
theorem mEq.waits {s σ : mS} (e : mEq s σ) (t : Nat) (x o : Int32) : mEq (mWaits s t x o) (mWaits σ t x o) := by
  unfold mWaits
  rw [e 31 (by decide)]
  exact (((e.sS _ _ _).sS _ _ _).sS _ _ _).sS _ _ _
theorem mEq.putC {s σ : mS} (e : mEq s σ) (c sl : Nat) (o r b p : Int32) : mEq (mPutC s c sl o r b p) (mPutC σ c sl o r b p) := ((((((e.sS _ _ _).sS _ _ _).sS _ _ _).sS _ _ _).sS _ _ _).sS _ _ _).sS _ _ _
/-- at work for the CURRENT thread t -/
def mWk (s : mS) (t : Nat) (σ : mS) : Prop := mEq s σ ∧ σ 38 0 = nI t ∧ σ 0 0 = 0
theorem w_begins (ok : mOk h m) (g : Int32) : ∃ σ, f_M_begins z [.ref m, .int g] (mPut h m s) = some (.inl (some (.int (xb (mNow s ≠ 0 ∧ g ≠ 0)))), mPut h m σ) ∧ mEq s σ ∧ σ 0 0 = (if mNow s = 0 then nI 4 else if g = 0 then 1 else 0) ∧ (mNow s ≠ 0 → g ≠ 0 → mWk s (mNow s) σ) := by
  have e : mEq s (mBegins s g) := (((mEq.rf s).sc (Or.inl rfl) 0 _).sc (by omega) 0 _).sc (Or.inl rfl) 0 _
  have h38 : mBegins s g 38 0 = nI (mNow s) := by unfold mBegins; simp only [sS_app, Nat.reduceEqDiff, false_and, and_self, ↓reduceIte]
  have h0 : mBegins s g 0 0 = (if mNow s = 0 then nI 4 else if g = 0 then 1 else 0) := sS_same _ _ _ _
  refine ⟨mBegins s g, t_M_begins ok g, e, h0, fun h1 h2 => ⟨e, h38, ?_⟩⟩
  rw [h0, if_neg h1, if_neg h2]
theorem w_has (ok : mOk h m) (W : mWF s) {t a : Nat} (ht : t < 4) (ha : a < 72) {σ : mS} (K : mWk s t σ) : ∃ σ', f_M_has z [.ref m, .int (nI a)] (mPut h m σ) = some (.inl (some (.int (xb (mCapa s t a ≠ 0)))), mPut h m σ') ∧ mEq s σ' ∧ (mCapa s t a = 0 → σ' 0 0 = nI 2) ∧ (mCapa s t a ≠ 0 → mWk s t σ' ∧ σ' 39 0 = mCapa s t a) ∧ σ' 40 0 = σ 40 0 := by
  obtain ⟨e, h38, h0⟩ := K
  have key := t_M_has (z := z) ok (e.wf W) h38 ht ha h0
  rw [e.capa] at key
  refine ⟨mHas σ t a, key, ?_, ?_, ?_, ?_⟩
  · unfold mHas
    split
    · exact (e.sc (by omega) 0 _).sc (Or.inl rfl) 0 _
    · exact e.sc (by omega) 0 _
  · intro hc
    unfold mHas
    rw [e.capa, if_pos hc, sS_same]
  · intro hc
    unfold mHas
    rw [e.capa, if_neg hc]
    refine ⟨⟨e.sc (by omega) 0 _, ?_, ?_⟩, sS_same _ _ _ _⟩
    · rw [sS_app, if_neg (by decide)]; exact h38
    · rw [sS_app, if_neg (by decide)]; exact h0
  · unfold mHas
    split <;> simp only [sS_app, Nat.reduceEqDiff, false_and, ↓reduceIte]
theorem w_leads (ok : mOk h m) (W : mWF s) {t a : Nat} (ht : t < 4) (ha : a < 72) {σ : mS} (K : mWk s t σ) : ∃ σ', f_M_leads z [.ref m, .int (nI a)] (mPut h m σ) = some (.inl (some (.int (xb ((mPlace s t a).isSome = true)))), mPut h m σ') ∧ mEq s σ' ∧ (mPlace s t a = none → σ' 0 0 = nI 2) ∧ (∀ p, mPlace s t a = some p → mWk s t σ' ∧ σ' 40 0 = nI p) ∧ σ' 39 0 = σ 39 0 := by
  obtain ⟨e, h38, h0⟩ := K
  have key := t_M_leads (z := z) ok (e.wf W) h38 ht ha h0
  rw [e.place] at key
  refine ⟨mLeads σ t a, key, ?_, ?_, ?_, ?_⟩
  · unfold mLeads
    split
    · exact (e.sc (by omega) 0 _).sc (Or.inl rfl) 0 _
    · exact e.sc (by omega) 0 _
  · intro hc
    unfold mLeads
    rw [e.place, hc]
    exact sS_same _ _ _ _
  · intro p hp
    unfold mLeads
    rw [e.place, hp]
    refine ⟨⟨e.sc (by omega) 0 _, ?_, ?_⟩, sS_same _ _ _ _⟩
    · show sS σ 40 0 (nI p) 38 0 = _
      rw [sS_app, if_neg (by decide)]; exact h38
    · show sS σ 40 0 (nI p) 0 0 = _
      rw [sS_app, if_neg (by decide)]; exact h0
  · unfold mLeads
    cases mPlace σ t a <;> simp only [sS_app, Nat.reduceEqDiff, false_and, ↓reduceIte]
theorem w_is (ok : mOk h m) (W : mWF s) {t c : Nat} (hc : c < 1200) {σ : mS} (K : mWk s t σ) (hcap : σ 39 0 = nI c) (k n : Int32) : ∃ σ', f_M_is z [.ref m, .int k, .int n] (mPut h m σ) = some (.inl (some (.int (xb (s 1 (vN (s 8 c)) = k ∧ s 9 c &&& n = n)))), mPut h m σ') ∧ mEq s σ' ∧ (¬ s 1 (vN (s 8 c)) = k → σ' 0 0 = 1) ∧ (s 1 (vN (s 8 c)) = k → ¬ s 9 c &&& n = n → σ' 0 0 = nI 3) ∧ (s 1 (vN (s 8 c)) = k → s 9 c &&& n = n → σ' = σ) := by
  obtain ⟨e, h38, h0⟩ := K
  have key := t_M_is (z := z) ok (e.wf W) hcap hc h0 k n
  have e1 := e 1 (by decide)
  have e8 := e 8 (by decide)
  have e9 := e 9 (by decide)
  rw [e1, e8, e9] at key
  refine ⟨mIs σ c k n, key, ?_, ?_, ?_, ?_⟩
  · unfold mIs
    split
    · split
      · exact e
      · exact e.sc (Or.inl rfl) 0 _
    · exact e.sc (Or.inl rfl) 0 _
  · intro h1
    unfold mIs
    rw [e1, e8, if_neg h1, sS_same]
  · intro h1 h2
    unfold mIs
    rw [e1, e8, e9, if_pos h1, if_neg h2, sS_same]
  · intro h1 h2
    unfold mIs
    rw [e1, e8, e9, if_pos h1, if_pos h2]
/-- an address in its range -/
theorem w_addr {x : Int32} (h0 : ¬ (x < 0 ∨ nI 71 < x)) : ∃ a : Nat, a < 72 ∧ x = nI a := by
  obtain ⟨j, hj, e⟩ := nI_of2 (x := x) (M := nI 71) (n := 71) (by decide) (fun q => h0 (Or.inl q)) (k2_le (fun q => h0 (Or.inr q)))
  exact ⟨j, by omega, e⟩
end MH
