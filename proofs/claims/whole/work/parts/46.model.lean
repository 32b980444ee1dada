/-! The reference: deliver, noteMessage, asks, answer. -/
section MQ
variable {z : xzs} {h : xH} {m : Nat} {s : mS}
/-- what is given along arrives: it is there, a SLOT was said, its TABLE is there, it is empty -/
abbrev mDelOk (s : mS) (to g : Nat) : Prop := 0 < g ∧ ¬ s 12 g = 0 ∧ 0 ≤ s 27 to ∧ ¬ s 6 (vN (s 41 to) / 8) = 0 ∧ s 14 (vN (s 41 to)) = 0
def mDel (s : mS) (n to : Nat) (w b : Int32) (g : Nat) : mS := if mDelOk s to g then mComes (mPutC s n (vN (s 41 to)) (s 8 g) (s 9 g) (s 10 g) (nI g)) to w b (s 27 to) else mComes s to w b (-1)
theorem t_del125 (ok : mOk h m) {to : Nat} (hto : to < 4) (a b w : Int32) : B_M_deliver_125 z a b w (nI to) (some m) (mPut h m s) = some (.inl none, mPut h m (mComes s to w b a)) := by
  refine E_M_deliver_125 z _ _ _ _ _ _ _ ?_
  simp only [D_M_deliver_125, Option.bind_some, xisO_m ok, t_M_comes ok hto, xclV_some]
theorem t_del68 (ok : mOk h m) {to : Nat} (hto : to < 4) (b w g x : Int32) : B_M_deliver_68 z m (nI to) w b g x (mPut h m s) = some (.inl none, mPut h m (mComes s to w b (-1))) := by
  refine E_M_deliver_68 z m _ _ _ _ _ _ _ ?_
  unfold D_M_deliver_68
  refine E_M_deliver_69 z m _ _ _ _ _ _ _ _ ?_
  unfold D_M_deliver_69
  rw [ic_0, if_pos rfl]
  refine E_M_deliver_106 z m _ _ _ _ _ _ ?_
  unfold D_M_deliver_106
  rw [if_pos rfl, ic_m1]
  exact t_del125 ok hto _ _ _
theorem t_M_deliver (ok : mOk h m) {n to g : Nat} (hm : s 13 0 = nI n) (hn : n + 1 < 1200) (hto : to < 4) (hg : g < 1200) (h41 : 0 ≤ s 27 to → isN (s 41 to) 400) (w b : Int32) : f_M_deliver z [.ref m, .int (nI to), .int w, .int b, .int (nI g)] (mPut h m s) = some (.inl none, mPut h m (mDel s n to w b g)) := by
  refine E_M_deliver z m _ _ _ _ _ _ ?_
  simp only [D_M_deliver_0, mr_into ok, ma_into ok hto, mr_slotSaid ok, ma_slotSaid ok hto, Option.bind_some]
  unfold mDel
  by_cases g3 : 0 ≤ s 27 to
  · rw [if_pos g3]
    obtain ⟨q, hq, hqe⟩ : ∃ q, q < 400 ∧ s 41 to = nI q := ⟨_, (h41 g3).2, (h41 g3).1⟩
    have vq : vN (nI q) = q := vN_nI (by omega)
    have ed : nI q / nI 8 = nI (q / 8) := pk_div (by omega) (by decide) (by decide)
    have hq8 : q / 8 < 50 := by omega
    have vv : vN (s 41 to) = q := by rw [hqe, vq]
    refine E_M_deliver_19 z m _ _ _ _ _ _ _ ?_
    simp only [D_M_deliver_19, hqe, mr_lives ok, ma_lives ok hg, Option.bind_some, mr_there ok, bc_8, ed, ma_there ok hq8, mr_slot ok, ma_slot ok hq, vq, ic_1]
    by_cases g1 : g = 0
    · rw [if_pos (by rw [g1]; decide), if_neg (fun w => by have := w.1; omega)]
      exact t_del68 ok hto _ _ _ _
    · rw [if_neg (nI_nle (by omega) (by omega))]
      by_cases g2 : s 12 g = 0
      · rw [if_pos g2, if_neg (fun w => w.2.1 g2)]
        exact t_del68 ok hto _ _ _ _
      · rw [if_neg g2, if_neg (nI_pos (by omega))]
        by_cases g4 : s 6 (q / 8) = 0
        · rw [if_pos g4, if_neg (fun w => w.2.2.2.1 (by rw [vv]; exact g4))]
          exact t_del68 ok hto _ _ _ _
        · rw [if_neg g4]
          by_cases g5 : s 14 q = 0
          · rw [if_neg (fun w => w g5), if_pos ⟨by omega, g2, g3, by rw [vv]; exact g4, by rw [vv]; exact g5⟩]
            refine E_M_deliver_69 z m _ _ _ _ _ _ _ _ ?_
            simp only [D_M_deliver_69, mr_of ok, ma_of ok hg, mr_rights ok, ma_rights ok hg, mr_badge ok, ma_badge ok hg, Option.bind_some, xisO_m ok, t_M_put ok hm hn hq, xclI_some]
            rw [if_neg (by decide)]
            refine E_M_deliver_106 z m _ _ _ _ _ _ ?_
            simp only [D_M_deliver_106, mr_into ok, ma_into ok hto, Option.bind_some]
            rw [if_neg (by decide), t_del125 ok hto]
            rfl
          · rw [if_pos g5, if_neg (fun w => g5 (by have := w.2.2.2.2; rw [vv] at this; exact this))]
            exact t_del68 ok hto _ _ _ _
  · rw [if_neg g3, if_neg (fun w => g3 w.2.2.1), ic_m1]
    refine E_M_deliver_19 z m _ _ _ _ _ _ _ ?_
    simp only [D_M_deliver_19, mr_lives ok, ma_lives ok hg, Option.bind_some]
    rw [if_pos (show (-1 : Int32) < 0 by decide)]
    rw [t_del68 ok hto]
    split
    · rfl
    · split <;> rfl
def mNote (s : mS) (t : Nat) (w b g : Int32) : mS := sS (sS (sS s 24 t w) 25 t b) 26 t g
theorem t_M_noteMessage (ok : mOk h m) {t : Nat} (ht : t < 4) (h38 : s 38 0 = nI t) (w b g : Int32) : f_M_noteMessage z [.ref m, .int w, .int b, .int g] (mPut h m s) = some (.inl none, mPut h m (mNote s t w b g)) := by
  refine E_M_noteMessage z m _ _ _ _ _ ?_
  have e1 : sS s 24 t w 38 0 = nI t := h38
  have e2 : sS (sS s 24 t w) 25 t b 38 0 = nI t := h38
  simp only [D_M_noteMessage_0, mr_message ok, mr_at ok, h38, mw_message ok ht, Option.bind_some, mr_messageBadge ok, e1, mw_messageBadge ok ht, mr_gift ok, e2, mw_gift ok ht]
  rfl
def mAsks (s : mS) (t v : Nat) : mS := sS (sS (sS s 15 t (nI 3)) 29 v (nI t)) 30 v (s 28 t)
theorem t_M_asks (ok : mOk h m) {t v : Nat} (ht : t < 4) (hv : v < 4) : f_M_asks z [.ref m, .int (nI t), .int (nI v)] (mPut h m s) = some (.inl none, mPut h m (mAsks s t v)) := by
  refine E_M_asks z m _ _ _ _ ?_
  have e1 : sS (sS s 15 t (nI 3)) 29 v (nI t) 28 t = s 28 t := rfl
  simp only [D_M_asks_0, mr_state ok, mw_state ok ht, Option.bind_some, ic_3, mr_caller ok, mw_caller ok hv, mr_callerNumber ok, mr_callNumber ok, ma_callNumber ok ht, e1, mw_callerNumber ok hv]
  rfl
-- answer
abbrev mAnsOk (s : mS) (t c : Nat) : Prop := 0 < c ∧ s 15 c = nI 3 ∧ s 28 c = s 30 t
def mAnswerG (s : mS) (t : Nat) (w : Int32) : mR := if mAnsOk s t (vN (s 29 t)) then (0, nI (vN (s 29 t)), mReady (mComes s (vN (s 29 t)) w 0 (-1)) (vN (s 29 t))) else (nI 4, 0, s)
theorem t_ans57 (ok : mOk h m) {w c : Int32} : mDone z h m (B_M_answer_57 z m w c (some m) (mPut h m s)) (nI 4, 0, s) := by
  have so := t_M_so (z := z) (s := s) ok 0 (Or.inl rfl)
  rw [if_pos rfl] at so
  refine ⟨sS s 0 0 (nI 4), E_M_answer_57 z m _ _ _ _ _ ?_, (mEq.rf s).sc (Or.inl rfl) 0 _, sS_same _ _ _ _⟩
  unfold D_M_answer_57
  rw [ic_0]
  refine E_M_answer_58 z m _ _ _ _ _ _ ?_
  simp only [D_M_answer_58, xisO_m ok, so, xclI_some, Option.bind_some, ic_0]
  rw [if_neg (by decide)]
theorem t_M_answer_bad (ok : mOk h m) {w : Int32} (ht : mNow s = 0) : mDone z h m (f_M_answer z [.ref m, .int w] (mPut h m s)) (mRef s) := by
  obtain ⟨σ, e1, q1, c1⟩ := w_refuse (z := z) (s := s) ok (Or.inr rfl) (Or.inl ht)
  refine ⟨σ, E_M_answer z m _ _ _ ?_, q1, c1⟩
  simp only [D_M_answer_0, xisO_m ok, ic_1, e1, xclI_some, Option.bind_some, ic_0]
  rw [if_neg (by decide)]
  rfl
theorem t_M_answer (ok : mOk h m) {t : Nat} {w : Int32} (ht : mNow s = t) (ht0 : t ≠ 0) (h29 : isN (s 29 t) 4) : mDone z h m (f_M_answer z [.ref m, .int w] (mPut h m s)) (mAnswerG s t w) := by
  have ht4 : t < 4 := by rw [← ht]; exact mNow_lt s
  obtain ⟨σ, e1, -, -, K1⟩ := w_begins (z := z) (s := s) ok 1
  have K1 := K1 (by rw [ht]; exact ht0) (by decide)
  rw [xb_same ⟨by rw [ht]; exact ht0, by decide⟩] at e1
  rw [ht] at K1
  obtain ⟨q1, h38, h00⟩ := K1
  obtain ⟨c, hc, hce⟩ : ∃ c, c < 4 ∧ s 29 t = nI c := ⟨_, h29.2, h29.1⟩
  have vc : vN (nI c) = c := vN_nI (by omega)
  have s29 : σ 29 t = nI c := by rw [q1 29 (by decide)]; exact hce
  have s15 : σ 15 = s 15 := q1 15 (by decide)
  have s28 : σ 28 = s 28 := q1 28 (by decide)
  have s30 : σ 30 = s 30 := q1 30 (by decide)
  refine f_done (E_M_answer z m w (mPut h m s)) ?_
  unfold mAnswerG
  rw [hce, vc]
  simp only [D_M_answer_0, xisO_m ok, ic_1, e1, xclI_some, Option.bind_some, mr_caller ok, mr_at ok, h38, ma_caller ok ht4, s29, mr_state ok, ma_state ok hc, s15, ic_3, mr_callNumber ok, ma_callNumber ok hc, s28, mr_callerNumber ok, ma_callerNumber ok ht4, s30]
  rw [if_pos (by decide)]
  by_cases g1 : c = 0
  · rw [if_pos (by rw [g1]; decide), if_neg (fun w => by have := w.1; omega)]
    exact (t_ans57 ok).eq2 q1
  · rw [if_neg (nI_nle (by omega) (by omega))]
    by_cases g2 : s 15 c = nI 3
    · rw [if_neg (fun w => w g2)]
      by_cases g3 : s 28 c = s 30 t
      · rw [if_neg (fun w => w g3), if_pos ⟨by omega, g2, g3⟩]
        have so := t_M_so (z := z) (s := σ) ok 1 (Or.inr rfl)
        rw [if_neg (by decide)] at so
        refine ⟨mReady (mComes σ c w 0 (-1)) c, E_M_answer_58 z m _ _ _ _ _ _ ?_, (q1.comes _ _ _ _).ready _, ?_⟩
        · simp only [D_M_answer_58, xisO_m ok, so, xclI_some, Option.bind_some, ic_0, ic_m1, t_M_comes ok hc, t_M_ready ok hc, xclV_some]
          rw [if_pos (by decide)]
        · show mReady (mComes σ c w 0 (-1)) c 0 0 = 0
          unfold mReady mComes
          simp only [sS_app, Nat.reduceEqDiff, false_and, ↓reduceIte]
          exact h00
      · rw [if_pos g3, if_neg (fun w => g3 w.2.2)]
        exact (t_ans57 ok).eq2 q1
    · rw [if_pos g2, if_neg (fun w => g2 w.2.1)]
      exact (t_ans57 ok).eq2 q1
end MQ
