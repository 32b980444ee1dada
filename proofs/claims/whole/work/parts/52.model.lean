/-! The reference: look. -/
section MX
variable {z : xzs} {h : xH} {m : Nat} {s : mS}
theorem mUp_congr {s σ : mS} (e : σ 11 = s 11) (top : Nat) : ∀ n k, mUp σ top n k = mUp s top n k
  | 0, _ => rfl
  | n + 1, k => by
    unfold mUp
    rw [e]
    simp only [mUp_congr e top n]
theorem mCame_congr {s σ : mS} (e : σ 11 = s 11) (c top : Nat) : mCame σ c top = mCame s c top := by
  unfold mCame
  rw [e, mUp_congr e]
/-- how many of the first k are there and came of c -/
def mDes (s : mS) (c : Nat) : Nat → Nat
  | 0 => 0
  | k + 1 => if ¬ s 12 (k + 1) = 0 ∧ mCame s (k + 1) c = true then mDes s c k + 1 else mDes s c k
def mLookV (s : mS) (n c o : Nat) (x : Int32) : Int32 := if x = 0 then s 1 o else if x = 1 then s 9 c else if x = nI 2 then s 10 c else if x = nI 3 then nI (mDes s c n) else if ¬ s 1 o = 0 then s 4 o else s 3 o
def mLookG (s : mS) (n t a : Nat) (x : Int32) : mR := if mCapa s t a = 0 then (nI 2, 0, s) else (0, mLookV s n (vN (mCapa s t a)) (vN (s 8 (vN (mCapa s t a)))) x, s)
theorem t_look103 {x c o : Int32} {d k : Nat} {r : xR} {H : xH} (hn : B_M_look_70 z m x c o (nI d) (nI (k + 1)) H = some r) : B_M_look_103 z m x c o (nI d) (nI k) H = some r := by
  refine E_M_look_103 z m _ _ _ _ _ _ _ ?_
  unfold D_M_look_103
  rw [ic_1n, nI_add]
  exact hn
theorem t_look194 (x : Int32) (H : xH) : B_M_look_194 z x H = some (.inl (some (.int x)), H) := E_M_look_194 z x H _ rfl
theorem t_look70 (ok : mOk h m) (P : mPar s) {n c o : Nat} {x : Int32} (hm : s 13 0 = nI n) (hn : n < 1200) (hc : c < 1200) (ho : o < 50) : ∀ (j k : Nat), k + j = n → B_M_look_70 z m x (nI c) (nI o) (nI (mDes s c k)) (nI (k + 1)) (mPut h m s) = some (.inl (some (.int (mLookV s n c o x))), mPut h m s)
  | 0, k, e => by
    obtain rfl : k = n := by omega
    refine E_M_look_70 z m _ _ _ _ _ _ _ ?_
    simp only [D_M_look_70, mr_made ok, hm, Option.bind_some, mr_kind ok, ma_kind ok ho, mr_rights ok, ma_rights ok hc, mr_badge ok, ma_badge ok hc, mr_bits ok, ma_bits ok ho, mr_used ok, ma_used ok ho, t_look194]
    rw [if_pos (nI_lt (by omega) (by omega))]
    unfold mLookV
    have e2 : (2 : Int32) = nI 2 := by decide
    have e3 : (3 : Int32) = nI 3 := by decide
    rw [e2, e3]
    by_cases g0 : x = 0
    · rw [if_pos g0, if_pos g0]
    · rw [if_neg g0, if_neg g0]
      by_cases g1 : x = 1
      · rw [if_pos g1, if_pos g1]
      · rw [if_neg g1, if_neg g1]
        by_cases g2 : x = nI 2
        · rw [if_pos g2, if_pos g2]
        · rw [if_neg g2, if_neg g2]
          by_cases g3 : x = nI 3
          · rw [if_pos g3, if_pos g3]
          · rw [if_neg g3, if_neg g3]
            by_cases g4 : s 1 o = 0
            · rw [if_neg (fun w => w g4), if_neg (fun w => w g4)]
            · rw [if_pos g4, if_pos g4]
  | j + 1, k, e => by
    have hk : k + 1 < 1200 := by omega
    refine E_M_look_70 z m _ _ _ _ _ _ _ ?_
    simp only [D_M_look_70, mr_made ok, hm, Option.bind_some, mr_lives ok, ma_lives ok hk, xisO_m ok, t_M_cameOf ok P hk hc, xclI_some, ic_1n, nI_add]
    rw [if_neg (nI_nlt (by omega) (by omega))]
    have ih := t_look70 (x := x) ok P hm hn hc ho j (k + 1) (by omega)
    unfold mDes at ih
    by_cases g1 : s 12 (k + 1) = 0
    · rw [if_neg (fun w => w.1 g1)] at ih
      rw [if_pos g1]
      exact t_look103 ih
    · rw [if_neg g1]
      by_cases g2 : mCame s (k + 1) c = true
      · rw [if_pos ⟨g1, g2⟩] at ih
        rw [xb_same g2, if_neg (by decide)]
        exact t_look103 ih
      · rw [if_neg (fun w => g2 w.2)] at ih
        rw [xb_not g2, if_pos rfl]
        exact t_look103 ih
theorem mDes_congr {s σ : mS} (e1 : σ 11 = s 11) (e2 : σ 12 = s 12) (c : Nat) : ∀ k, mDes σ c k = mDes s c k
  | 0 => rfl
  | k + 1 => by
    unfold mDes
    rw [e2, mCame_congr e1, mDes_congr e1 e2 c k]
theorem t_look30 (ok : mOk h m) : mDone z h m (B_M_look_30 z m (mPut h m s)) (1, 0, s) := by
  refine ⟨sS s 0 0 1, E_M_look_30 z m _ _ ?_, (mEq.rf s).sc (Or.inl rfl) 0 _, sS_same _ _ _ _⟩
  simp only [D_M_look_30, xisO_m ok, ic_1, t_M_fail ok, xclI_some, Option.bind_some]
theorem t_M_look_bad (ok : mOk h m) {p1 p2 p3 : Int32} (hr : ¬ (rIn p1 1 (nI 3) ∧ rAd p2 ∧ rIn p3 0 (nI 4))) : mDone z h m (f_M_look z [.ref m, .int p1, .int p2, .int p3] (mPut h m s)) (1, 0, s) := by
  refine f_done (E_M_look z m p1 p2 p3 (mPut h m s)) ?_
  have e0 : mEq s (sS s 0 0 0) := (mEq.rf s).sc (Or.inl rfl) 0 _
  simp only [D_M_look_0, mw_code ok, t_M_within, t_M_reaches, xclI_some, ic_0, ic_1, ic_3, ic_4, Option.bind_some]
  by_cases h1 : rIn p1 1 (nI 3)
  · rw [if_neg (fun w => ((xif_in _ _ _).mp w) h1)]
    by_cases h2 : rAd p2
    · rw [if_neg (fun w => ((xif_in _ _ _).mp w) h2)]
      by_cases h3 : rIn p3 0 (nI 4)
      · exact absurd ⟨h1, h2, h3⟩ hr
      · rw [if_neg (fun w => w ((xif_in _ _ _).mpr h3))]
        exact (t_look30 ok).eq e0
    · rw [if_pos ((xif_in _ _ _).mpr h2)]
      exact (t_look30 ok).eq e0
  · rw [if_pos ((xif_in _ _ _).mpr h1)]
    exact (t_look30 ok).eq e0
theorem t_M_look (ok : mOk h m) (W : mWF s) (P : mPar s) {n t a : Nat} {x : Int32} (hm : s 13 0 = nI n) (hn : n < 1200) (h0 : 0 < t) (ht : t < 4) (ha : a < 72) (hx : rIn x 0 (nI 4)) : mDone z h m (f_M_look z [.ref m, .int (nI t), .int (nI a), .int x] (mPut h m s)) (mLookG s n t a x) := by
  have e0 : mEq s (sS s 0 0 0) := (mEq.rf s).sc (Or.inl rfl) 0 _
  refine f_done (E_M_look z m _ _ _ (mPut h m s)) ?_
  have hi := mCapa_isN W ht ha
  simp only [D_M_look_0, mw_code ok, t_M_within, t_M_reaches, xclI_some, ic_0, ic_1, ic_2, ic_3, ic_4, Option.bind_some, xisO_m ok, t_M_capability ok (e0.wf W) ht ha, e0.capa, t_M_fail ok, mr_of ok]
  rw [if_neg (fun w => ((xif_in _ _ _).mp w) (r_thr h0 ht)), if_neg (fun w => ((xif_in _ _ _).mp w) (rAd_nI ha)), if_pos (fun w => ((xif_in _ _ _).mp w) hx)]
  unfold mLookG
  by_cases hc : mCapa s t a = 0
  · rw [if_neg (fun w => w hc), if_pos hc]
    exact ⟨_, rfl, e0.sc (Or.inl rfl) 0 _, sS_same _ _ _ _⟩
  · rw [if_pos hc, if_neg hc]
    obtain ⟨c, hcl, hce⟩ : ∃ c, c < 1200 ∧ mCapa s t a = nI c := ⟨_, hi.2, hi.1⟩
    have vc : vN (nI c) = c := vN_nI (by omega)
    obtain ⟨o, hol, hoe⟩ : ∃ o, o < 50 ∧ s 8 c = nI o := ⟨_, (W.2 _ hcl).2, (W.2 _ hcl).1⟩
    have vo : vN (nI o) = o := vN_nI (by omega)
    have s8 : sS s 0 0 0 8 c = nI o := hoe
    rw [hce, vc, ma_of ok hcl, Option.bind_some, s8, hoe, vo]
    have L := t_look70 (z := z) (s := sS s 0 0 0) (x := x) ok P hm hn hcl hol n 0 (by omega)
    refine ⟨sS s 0 0 0, ?_, e0, sS_same _ _ _ _⟩
    rw [ic_1n.symm.trans ic_1] at *
    refine L.trans ?_
    unfold mLookV
    rw [mDes_congr (s := s) (σ := sS s 0 0 0) rfl rfl]
    rfl
end MX
