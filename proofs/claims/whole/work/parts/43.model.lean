/-! The reference: mint, move, whole. -/
section MN
variable {z : xzs} {h : xH} {m : Nat} {s : mS}
theorem sc_255 : (Int16.ofInt 255).toInt32 = nI 255 := by decide
theorem t_mint42r (ok : mOk h m) {g p1 p2 p3 p4 : Int32} (hg : g = 0 ∨ g = 1) (hr : mNow s = 0 ∨ g = 0) : mDone z h m (B_M_mint_42 z m p1 p2 p3 p4 g (some m) (mPut h m s)) (mRef s) := by
  obtain ⟨σ, e1, q1, c1⟩ := w_refuse (z := z) (s := s) ok hg hr
  refine ⟨σ, E_M_mint_42 z m _ _ _ _ _ _ _ _ ?_, q1, c1⟩
  simp only [D_M_mint_42, xisO_m ok, e1, xclI_some, Option.bind_some]
  rw [if_pos trivial, t_mint64]
  rfl
theorem t_mint41 (ok : mOk h m) {p1 p2 p3 p4 : Int32} : mDone z h m (B_M_mint_41 z m p1 p2 p3 p4 (some m) (mPut h m s)) (mRef s) := by
  refine f_done (E_M_mint_41 z m _ _ _ _ _ _) ?_
  unfold D_M_mint_41
  rw [ic_0]
  exact t_mint42r ok (Or.inl rfl) (Or.inr rfl)
theorem t_M_mint_bad (ok : mOk h m) {p1 p2 p3 p4 : Int32} (hr : mNow s = 0 ∨ ¬ (rAd p1 ∧ rAd p2 ∧ rIn p3 0 (nI 7) ∧ rIn p4 1 (nI 255))) : mDone z h m (f_M_mint z [.ref m, .int p1, .int p2, .int p3, .int p4] (mPut h m s)) (mRef s) := by
  refine f_done (E_M_mint z m p1 p2 p3 p4 (mPut h m s)) ?_
  simp only [D_M_mint_0, t_M_reaches, t_M_within, xclI_some, ic_0, bc_7, ic_1, sc_255]
  by_cases h1 : rAd p1
  · rw [if_neg (fun w => ((xif_in _ _ _).mp w) h1)]
    by_cases h2 : rAd p2
    · rw [if_neg (fun w => ((xif_in _ _ _).mp w) h2)]
      by_cases h3 : rIn p3 0 (nI 7)
      · rw [if_neg (fun w => ((xif_in _ _ _).mp w) h3)]
        by_cases h4 : rIn p4 1 (nI 255)
        · rw [if_neg (fun w => ((xif_in _ _ _).mp w) h4)]
          exact t_mint42r ok (Or.inr rfl) (Or.inl (hr.resolve_right (fun w => w ⟨h1, h2, h3, h4⟩)))
        · rw [if_pos ((xif_in _ _ _).mpr h4)]
          exact t_mint41 ok
      · rw [if_pos ((xif_in _ _ _).mpr h3)]
        exact t_mint41 ok
    · rw [if_pos ((xif_in _ _ _).mpr h2)]
      exact t_mint41 ok
  · rw [if_pos ((xif_in _ _ _).mpr h1)]
    exact t_mint41 ok
theorem t_M_mint (ok : mOk h m) (W : mWF s) {n a b : Nat} {p3 p4 : Int32} (hm : s 13 0 = nI n) (hn : n + 1 < 1200) (ht0 : mNow s ≠ 0) (ha : a < 72) (hb : b < 72) (h3 : rIn p3 0 (nI 7)) (h4 : rIn p4 1 (nI 255)) : mDone z h m (f_M_mint z [.ref m, .int (nI a), .int (nI b), .int p3, .int p4] (mPut h m s)) (mMintG s n (mNow s) a b p3 p4) := by
  refine f_done (E_M_mint z m (nI a) (nI b) p3 p4 (mPut h m s)) ?_
  simp only [D_M_mint_0, t_M_reaches, t_M_within, xclI_some, ic_0, bc_7, ic_1, sc_255]
  rw [if_neg (fun w => ((xif_in _ _ _).mp w) (rAd_nI ha)), if_neg (fun w => ((xif_in _ _ _).mp w) (rAd_nI hb)), if_neg (fun w => ((xif_in _ _ _).mp w) h3), if_neg (fun w => ((xif_in _ _ _).mp w) h4)]
  exact t_mint42 ok W hm hn rfl ht0 ha hb
-- move
theorem mFind_ex (s : mS) (c : Int32) : ∀ (n i p : Nat), i ≤ p → p < i + n → s 14 p = c → ∃ r, mFind s c n i = some r ∧ r < i + n
  | 0, i, p, h1, h2, _ => by omega
  | n + 1, i, p, h1, h2, h3 => by
    unfold mFind
    by_cases q : s 14 i = c
    · rw [if_pos q]; exact ⟨i, rfl, by omega⟩
    · rw [if_neg q]
      have hne : i ≠ p := fun w => q (by rw [w]; exact h3)
      obtain ⟨r, e, l⟩ := mFind_ex s c n (i + 1) p (by omega) (by omega) h3
      exact ⟨r, e, by omega⟩
theorem mFind_congr {s σ : mS} (c : Int32) (e : σ 14 = s 14) : ∀ (n i : Nat), mFind σ c n i = mFind s c n i
  | 0, _ => rfl
  | n + 1, i => by unfold mFind; rw [e, mFind_congr c e n (i + 1)]
theorem mEq.slotOf {s σ : mS} (e : mEq s σ) (c : Int32) : mSlotOf σ c = mSlotOf s c := mFind_congr c (e 14 (by decide)) 400 0
theorem mSlotOf_ex (W : mWF s) {t a : Nat} (ht : t < 4) (ha : a < 72) (hc : ¬ mCapa s t a = 0) : ∃ r, mSlotOf s (mCapa s t a) = some r ∧ r < 400 := by
  cases hp : mPlace s t a with
  | none => exact absurd (by unfold mCapa; rw [hp]) hc
  | some p =>
    have e : mCapa s t a = s 14 p := by unfold mCapa; rw [hp]
    obtain ⟨r, e1, l⟩ := mFind_ex s (mCapa s t a) 400 0 p (by omega) (by have := mPlace_lt W ht ha hp; omega) e.symm
    exact ⟨r, e1, by omega⟩
def mMoveG (s : mS) (t a b : Nat) : mR := if mCapa s t a = 0 then (nI 2, 0, s) else match mPlace s t b with
  | none => (nI 2, 0, s)
  | some q => if ¬ s 14 q = 0 ∨ (s 1 (vN (s 8 (vN (mCapa s t a)))) = nI 3 ∧ q / 8 = vN (s 8 (vN (mCapa s t a)))) then (nI 4, 0, s)
    else (0, 0, sS (sS s 14 ((mSlotOf s (mCapa s t a)).getD 0) 0) 14 q (mCapa s t a))
theorem t_move42 (H : xH) : B_M_move_42 z H = some (.inl (some (.int 0)), H) := by
  refine E_M_move_42 z H _ ?_
  unfold D_M_move_42
  rw [ic_0]
theorem t_move108 (ok : mOk h m) : mDone z h m (B_M_move_108 z m (some m) (mPut h m s)) (nI 4, 0, s) := by
  have so := t_M_so (z := z) (s := s) ok 0 (Or.inl rfl)
  rw [if_pos rfl] at so
  refine ⟨sS s 0 0 (nI 4), E_M_move_108 z m _ _ _ ?_, (mEq.rf s).sc (Or.inl rfl) 0 _, sS_same _ _ _ _⟩
  unfold D_M_move_108
  rw [ic_0]
  refine E_M_move_109 z m _ _ _ _ ?_
  simp only [D_M_move_109, xisO_m ok, so, xclI_some, Option.bind_some, ic_0]
  rw [if_neg (by decide)]
theorem t_move86 (ok : mOk h m) {c q r : Nat} {g : Int32} (hc : c < 1200) (hq : q < 400) (hr : r < 400) (hf : mSlotOf s (nI c) = some r) (h39 : s 39 0 = nI c) (h40 : s 40 0 = nI q) (h00 : s 0 0 = 0) : mDone z h m (B_M_move_86 z m g (mPut h m s)) (if ¬ s 14 q = 0 ∨ ¬ g = 0 then (nI 4, 0, s) else (0, 0, sS (sS s 14 r 0) 14 q (nI c))) := by
  refine f_done (E_M_move_86 z m _ _) ?_
  simp only [D_M_move_86, mr_slot ok, mr_goal ok, h40, ma_slot ok hq, Option.bind_some, ic_1]
  by_cases g1 : s 14 q = 0
  · rw [if_neg (fun w => w g1)]
    by_cases g2 : g = 0
    · rw [if_neg (fun w => w g2), if_neg (fun w => w.elim (fun w => w g1) (fun w => w g2))]
      have so := t_M_so (z := z) (s := s) ok 1 (Or.inr rfl)
      rw [if_neg (by decide)] at so
      refine ⟨sS (sS s 14 r 0) 14 q (nI c), E_M_move_109 z m _ _ _ _ ?_, mEq.rf _, ?_⟩
      · have e40 : sS s 14 r 0 40 0 = nI q := h40
        have e39 : sS s 14 r 0 39 0 = nI c := h39
        simp only [D_M_move_109, xisO_m ok, so, xclI_some, Option.bind_some, mr_slot ok, mr_cap ok, h39, t_M_slotOf ok, hf, xpl, mw_slot ok hr, ic_0, mr_goal ok, e40, e39, mw_slot ok hq]
        rw [if_pos (by decide)]
      · show sS (sS s 14 r 0) 14 q (nI c) 0 0 = 0
        simp only [sS_app, Nat.reduceEqDiff, false_and, ↓reduceIte]
        exact h00
    · rw [if_pos g2, if_pos (Or.inr g2)]
      exact t_move108 ok
  · rw [if_pos g1, if_pos (Or.inl g1)]
    exact t_move108 ok
theorem t_move20 (ok : mOk h m) (W : mWF s) {t a b : Nat} (ht : mNow s = t) (ht0 : t ≠ 0) (ha : a < 72) (hb : b < 72) : mDone z h m (B_M_move_20 z m (nI a) (nI b) 1 (some m) (mPut h m s)) (mMoveG s t a b) := by
  have ht4 : t < 4 := by rw [← ht]; exact mNow_lt s
  refine f_done (E_M_move_20 z m _ _ _ _ _) ?_
  unfold mMoveG
  by_cases hc : mCapa s t a = 0
  · rw [if_pos hc]
    obtain ⟨σ1, σ2, e1, e2, q2, c2, -⟩ := w_a (z := z) ok W ht ht0 ha
    rw [xb_not (fun w => w hc)] at e2
    refine ⟨σ2, ?_, q2, c2 hc⟩
    simp only [D_M_move_20, xisO_m ok, e1, xclI_some, Option.bind_some, e2]
    rw [if_neg (by decide), if_pos trivial, t_move42]
  · rw [if_neg hc]
    obtain ⟨σ1, σ2, σ3, c, e1, e2, e3, q3, c3, hcl, hce, h39, K3⟩ := w_ab (z := z) ok W ht ht0 ha hb hc
    cases hp : mPlace s t b with
    | none =>
      rw [hp, xb_not (by decide)] at e3
      refine ⟨σ3, ?_, q3, c3 hp⟩
      simp only [D_M_move_20, xisO_m ok, e1, xclI_some, Option.bind_some, e2, e3]
      rw [if_neg (by decide), if_neg (by decide), if_neg (fun w => w trivial), t_move42]
    | some q =>
      rw [hp, xb_same (show (some q).isSome = true from rfl)] at e3
      obtain ⟨hq, ⟨-, h38, h00⟩, h40⟩ := K3 q hp
      have vc : vN (nI c) = c := vN_nI (by omega)
      obtain ⟨o, hol, hoe⟩ : ∃ o, o < 50 ∧ s 8 c = nI o := ⟨_, (W.2 _ hcl).2, (W.2 _ hcl).1⟩
      have vo : vN (nI o) = o := vN_nI (by omega)
      have s8 : σ3 8 c = nI o := by rw [q3 8 (by decide)]; exact hoe
      have s1 : σ3 1 = s 1 := q3 1 (by decide)
      obtain ⟨r, hf, hr⟩ := mSlotOf_ex W ht4 ha hc
      rw [hce] at hf
      have D := fun g => t_move86 (z := z) (g := g) ok hcl hq hr ((q3.slotOf _).trans hf) h39 h40 h00
      rw [q3 14 (by decide)] at D
      have ed : nI q / nI 8 = nI (q / 8) := pk_div (by omega) (by decide) (by decide)
      simp only [D_M_move_20, xisO_m ok, e1, xclI_some, Option.bind_some, e2, e3, mr_kind ok, mr_of ok, mr_cap ok, h39, ma_of ok hcl, s8, ma_kind ok hol, s1, ic_1, ic_3, hce, vc, hoe, vo, mr_goal ok, h40, bc_8, ed, hf, Option.getD_some]
      rw [if_neg (by decide), if_neg (by decide), if_pos (by decide)]
      have N : ¬ (s 1 o = nI 3 ∧ q / 8 = o) → mDone z h m (B_M_move_85 z m (mPut h m σ3)) (if ¬ s 14 q = 0 ∨ s 1 o = nI 3 ∧ q / 8 = o then (nI 4, 0, s) else (0, 0, sS (sS s 14 r 0) 14 q (nI c))) := fun hN => by
        refine f_done (E_M_move_85 z m _) ?_
        unfold D_M_move_85
        rw [ic_0]
        have D := D 0
        by_cases g : s 14 q = 0
        · rw [if_neg (fun w => w.elim (fun w => w g) (fun w => w rfl))] at D
          rw [if_neg (fun w => w.elim (fun w => w g) hN)]
          exact D.eq2 ((q3.sS _ _ _).sS _ _ _)
        · rw [if_pos (Or.inl g)] at D
          rw [if_pos (Or.inl g)]
          exact D.eq2 q3
      by_cases g1 : s 1 o = nI 3
      · rw [if_neg (fun w => w g1)]
        by_cases g2 : q / 8 = o
        · rw [if_neg (fun w => w (by rw [g2]))]
          have D := D 1
          rw [if_pos (Or.inr (by decide))] at D
          rw [if_pos (Or.inr ⟨g1, g2⟩)]
          exact D.eq2 q3
        · rw [if_pos (fun w => g2 (by have := congrArg vN w; rw [vN_nI (by omega), vo] at this; exact this))]
          exact N (fun w => g2 w.2)
      · rw [if_pos g1]
        exact N (fun w => g1 w.1)
theorem t_move20r (ok : mOk h m) {g p1 p2 : Int32} (hg : g = 0 ∨ g = 1) (hr : mNow s = 0 ∨ g = 0) : mDone z h m (B_M_move_20 z m p1 p2 g (some m) (mPut h m s)) (mRef s) := by
  obtain ⟨σ, e1, q1, c1⟩ := w_refuse (z := z) (s := s) ok hg hr
  refine ⟨σ, E_M_move_20 z m _ _ _ _ _ _ ?_, q1, c1⟩
  simp only [D_M_move_20, xisO_m ok, e1, xclI_some, Option.bind_some]
  rw [if_pos trivial, t_move42]
  rfl
theorem t_move19 (ok : mOk h m) {p1 p2 : Int32} : mDone z h m (B_M_move_19 z m p1 p2 (some m) (mPut h m s)) (mRef s) := by
  refine f_done (E_M_move_19 z m _ _ _ _) ?_
  unfold D_M_move_19
  rw [ic_0]
  exact t_move20r ok (Or.inl rfl) (Or.inr rfl)
theorem t_M_move_bad (ok : mOk h m) {p1 p2 : Int32} (hr : mNow s = 0 ∨ ¬ (rAd p1 ∧ rAd p2)) : mDone z h m (f_M_move z [.ref m, .int p1, .int p2] (mPut h m s)) (mRef s) := by
  refine f_done (E_M_move z m p1 p2 (mPut h m s)) ?_
  simp only [D_M_move_0, t_M_reaches, xclI_some, ic_1]
  by_cases h1 : rAd p1
  · rw [if_neg (fun w => ((xif_in _ _ _).mp w) h1)]
    by_cases h2 : rAd p2
    · rw [if_neg (fun w => ((xif_in _ _ _).mp w) h2)]
      exact t_move20r ok (Or.inr rfl) (Or.inl (hr.resolve_right (fun w => w ⟨h1, h2⟩)))
    · rw [if_pos ((xif_in _ _ _).mpr h2)]
      exact t_move19 ok
  · rw [if_pos ((xif_in _ _ _).mpr h1)]
    exact t_move19 ok
theorem t_M_move (ok : mOk h m) (W : mWF s) {a b : Nat} (ht0 : mNow s ≠ 0) (ha : a < 72) (hb : b < 72) : mDone z h m (f_M_move z [.ref m, .int (nI a), .int (nI b)] (mPut h m s)) (mMoveG s (mNow s) a b) := by
  refine f_done (E_M_move z m (nI a) (nI b) (mPut h m s)) ?_
  simp only [D_M_move_0, t_M_reaches, xclI_some, ic_1]
  rw [if_neg (fun w => ((xif_in _ _ _).mp w) (rAd_nI ha)), if_neg (fun w => ((xif_in _ _ _).mp w) (rAd_nI hb))]
  exact t_move20 ok W rfl ht0 ha hb
end MN
