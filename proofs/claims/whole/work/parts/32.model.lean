/-! The reference: places, capabilities, what an action looks at. -/
def vN (x : Int32) : Nat := x.toNatClampNeg
def isN (x : Int32) (b : Nat) : Prop := x = nI (vN x) ∧ vN x < b
theorem vN_nI {n : Nat} (hn : n < 2 ^ 31) : vN (nI n) = n := nI_clamp hn
theorem isN_nI {n b : Nat} (h : n < b) (hb : b ≤ 2 ^ 31) : isN (nI n) b := by
  have : vN (nI n) = n := vN_nI (by omega)
  exact ⟨by rw [this], by rw [this]; exact h⟩
theorem ic_1n : Int32.ofInt 1 = nI 1 := by decide
theorem ic_0n : Int32.ofInt 0 = nI 0 := by decide
theorem bc_8 : (Int8.ofInt 8).toInt32 = nI 8 := by decide
theorem bc_7 : (Int8.ofInt 7).toInt32 = nI 7 := by decide
theorem bc_71 : (Int8.ofInt 71).toInt32 = nI 71 := by decide
theorem sc_400 : (Int16.ofInt 400).toInt32 = nI 400 := by decide
def xb (p : Prop) [Decidable p] : Int32 := if p then 1 else 0
theorem xb_eq0 {p : Prop} [Decidable p] : xb p = 0 ↔ ¬ p := by
  unfold xb
  split
  · rename_i q; exact ⟨fun w => absurd w (by decide), fun w => absurd q w⟩
  · rename_i q; exact ⟨fun _ => q, fun _ => rfl⟩
/-- what the numbers of the reference's state keep to -/
def mWF (s : mS) : Prop := (∀ i, i < 400 → isN (s 14 i) 1200) ∧ (∀ c, c < 1200 → isN (s 8 c) 50)
section MB
variable {z : xzs} {h : xH} {m : Nat} {s : mS}
theorem xisO_m (ok : mOk h m) : xisO (mPut h m s) m 6 = some () := xisO_of (xat_m0 ok)
theorem xclI_some (x : Int32) (H : xH) (k : Int32 → xH → Option xR) : xclI (some (.inl (some (.int x)), H)) k = k x H := rfl
theorem xclV_some (H : xH) (k : xH → Option xR) : xclV (some (.inl none, H)) k = k H := rfl
theorem xclR_some (r : Option Nat) (H : xH) (k : Option Nat → xH → Option xR) : xclR (some (.inl (some (va_rf r)), H)) k = k r H := by cases r <;> rfl
theorem xclC_some (H : xH) (k : xH → Option xR) : xclC (some (.inl none, H)) k = k H := rfl
-- reaches
theorem t_M_reaches (a : Int32) (H : xH) : f_M_reaches z [.int a] H = some (.inl (some (.int (if a < 0 ∨ nI 71 < a then 0 else 1))), H) := by
  refine E_M_reaches z a H _ ?_
  simp only [D_M_reaches_0, ic_0, bc_71, t_M_within, xclI_some]
  split <;> simp
-- so
theorem t_M_so (ok : mOk h m) (g : Int32) (hg : g = 0 ∨ g = 1) : f_M_so z [.ref m, .int g] (mPut h m s) = some (.inl (some (.int g)), mPut h m (if g = 0 then sS s 0 0 (nI 4) else s)) := by
  refine E_M_so z m g _ _ ?_
  unfold D_M_so_0
  by_cases h0 : g = 0
  · subst h0
    simp only [ne_eq, not_true_eq_false, ↓reduceIte, ic_4, mw_code ok, Option.bind_some]
    refine E_M_so_9 z _ _ _ ?_
    unfold D_M_so_9
    rw [if_pos (Or.inl rfl)]
  · rw [if_pos h0, if_neg h0]
    refine E_M_so_9 z _ _ _ ?_
    unfold D_M_so_9
    rw [if_pos hg]
-- place
def mPlace (s : mS) (t a : Nat) : Option Nat := if a < 8 then some (8 * (1 + t) + a) else if vN (s 14 (8 * (1 + t) + a / 8 - 1)) = 0 ∨ ¬ s 1 (vN (s 8 (vN (s 14 (8 * (1 + t) + a / 8 - 1))))) = nI 3 then none else some (8 * vN (s 8 (vN (s 14 (8 * (1 + t) + a / 8 - 1)))) + a % 8)
def xpl : Option Nat → Int32
  | none => -1
  | some p => nI p
theorem mPlace_lt (W : mWF s) {t a p : Nat} (ht : t < 4) (ha : a < 72) (hp : mPlace s t a = some p) : p < 400 := by
  unfold mPlace at hp
  split at hp
  · cases hp; omega
  · split at hp
    · cases hp
    · cases hp
      have h1 : 8 * (1 + t) + a / 8 - 1 < 400 := by omega
      have h2 := (W.2 _ (W.1 _ h1).2).2
      omega
theorem t_M_place (ok : mOk h m) (W : mWF s) {t a : Nat} (ht : t < 4) (ha : a < 72) : f_M_place z [.ref m, .int (nI t), .int (nI a)] (mPut h m s) = some (.inl (some (.int (xpl (mPlace s t a)))), mPut h m s) := by
  refine E_M_place z m _ _ _ _ ?_
  unfold D_M_place_0
  have e8 : nI 8 * (nI 1 + nI t) = nI (8 * (1 + t)) := by rw [nI_add, pk_mul]
  unfold mPlace
  by_cases h8 : a < 8
  · rw [bc_8, if_neg (nI_ge h8 (by decide)), if_pos h8, ic_1n, e8, nI_add]
    rfl
  · have ed : nI a / nI 8 = nI (a / 8) := pk_div (by omega) (by decide) (by decide)
    have er : nI a - nI a / nI 8 * nI 8 = nI (a % 8) := pk_rem (by omega) (by decide) (by decide)
    have ei : nI 8 * (nI 1 + nI t) + nI a / nI 8 - nI 1 = nI (8 * (1 + t) + a / 8 - 1) := by rw [e8, ed, nI_add, pk_sub (by omega)]
    have hi : 8 * (1 + t) + a / 8 - 1 < 400 := by omega
    rw [bc_8, if_pos (nI_le (by omega) (by omega)), if_neg h8, ic_1n, ei]
    obtain ⟨c, c2, c1⟩ : ∃ c, c < 1200 ∧ s 14 (8 * (1 + t) + a / 8 - 1) = nI c := ⟨_, (W.1 _ hi).2, (W.1 _ hi).1⟩
    obtain ⟨o, o2, o1⟩ : ∃ o, o < 50 ∧ s 8 c = nI o := ⟨_, (W.2 _ c2).2, (W.2 _ c2).1⟩
    have vc : vN (nI c) = c := vN_nI (by omega)
    have vo : vN (nI o) = o := vN_nI (by omega)
    simp only [mr_slot ok, ma_slot ok hi, mr_kind ok, mr_of ok, Option.bind_some, c1, vc, o1, vo, ma_of ok c2, ma_kind ok o2, ic_3]
    by_cases hc : c = 0
    · rw [if_pos ((nI_e0 (by omega)).mpr hc), if_pos (Or.inl hc)]
      refine E_M_place_53 z _ _ ?_
      unfold D_M_place_53
      refine E_M_place_71 z _ _ _ ?_
      unfold D_M_place_71
      rw [ic_m1]
      rfl
    · rw [if_neg (fun q => hc ((nI_e0 (by omega)).mp q))]
      by_cases hk : s 1 o = nI 3
      · rw [if_pos hk, if_neg (by rintro (q | q); exact hc q; exact q hk)]
        refine E_M_place_71 z _ _ _ ?_
        unfold D_M_place_71
        rw [er, pk_mul, nI_add]
        rfl
      · rw [if_neg hk, if_pos (Or.inr hk)]
        refine E_M_place_53 z _ _ ?_
        unfold D_M_place_53
        refine E_M_place_71 z _ _ _ ?_
        unfold D_M_place_71
        rw [ic_m1]
        rfl
-- capability
def mCapa (s : mS) (t a : Nat) : Int32 := match mPlace s t a with
  | none => 0
  | some p => s 14 p
theorem t_M_capability (ok : mOk h m) (W : mWF s) {t a : Nat} (ht : t < 4) (ha : a < 72) : f_M_capability z [.ref m, .int (nI t), .int (nI a)] (mPut h m s) = some (.inl (some (.int (mCapa s t a))), mPut h m s) := by
  refine E_M_capability z m _ _ _ _ ?_
  simp only [D_M_capability_0, xisO_m ok, t_M_place ok W ht ha, xclI_some, Option.bind_some]
  unfold mCapa
  cases hp : mPlace s t a with
  | none =>
    rw [if_neg (by decide)]
    refine E_M_capability_21 z _ _ _ ?_
    unfold D_M_capability_21
    rw [ic_0]
  | some p =>
    have hl := mPlace_lt W ht ha hp
    rw [if_pos (show 0 ≤ xpl (some p) from nI_pos' (by omega))]
    show ((rdR (mPut h m s) m 6 14).bind fun r3 => r3.bind fun a4 => (rdA 0 (mPut h m s) a4 (nI p)).bind fun x5 => B_M_capability_21 z x5 (mPut h m s)) = _
    simp only [mr_slot ok, ma_slot ok hl, Option.bind_some]
    refine E_M_capability_21 z _ _ _ ?_
    unfold D_M_capability_21
    rfl
-- begins: the CURRENT thread stands in field 38
def mBegins (s : mS) (g : Int32) : mS := sS (sS (sS s 0 0 0) 38 0 (nI (mNow s))) 0 0 (if mNow s = 0 then nI 4 else if g = 0 then 1 else 0)
theorem mNow_code (s : mS) (c : Int32) : mNow (sS s 0 0 c) = mNow s := rfl
theorem t_begins49 (x : Int32) (hx : x = 0 ∨ x = 1) (H : xH) : B_M_begins_49 z x H = some (.inl (some (.int x)), H) := by
  refine E_M_begins_49 z x H _ ?_
  unfold D_M_begins_49
  rw [if_pos hx]
theorem t_begins37 (ok : mOk h m) : B_M_begins_37 z m (mPut h m s) = some (.inl (some (.int (xb (s 0 0 = 0)))), mPut h m s) := by
  refine E_M_begins_37 z m _ _ ?_
  simp only [D_M_begins_37, mr_code ok, Option.bind_some]
  by_cases h0 : s 0 0 = 0
  · rw [if_neg (fun q => q h0), ic_1, t_begins49 _ (Or.inr rfl)]
    unfold xb
    rw [if_pos h0]
  · rw [if_pos h0, ic_0, t_begins49 _ (Or.inl rfl)]
    unfold xb
    rw [if_neg h0]
theorem t_M_begins (ok : mOk h m) (g : Int32) : f_M_begins z [.ref m, .int g] (mPut h m s) = some (.inl (some (.int (xb (mNow s ≠ 0 ∧ g ≠ 0)))), mPut h m (mBegins s g)) := by
  refine E_M_begins z m g _ _ ?_
  simp only [D_M_begins_0, mw_code ok, mr_at ok, mw_at ok, xisO_m ok, t_M_now ok, xclI_some, Option.bind_some, ic_0, ic_1, ic_4, mNow_code, sS_app, and_self, ↓reduceIte]
  have hl := mNow_lt s
  unfold mBegins
  by_cases h1 : mNow s = 0
  · rw [if_neg (fun q => q ((nI_e0 (by omega)).mpr h1)), if_pos h1, t_begins37 ok]
    refine congrArg (fun v => some (Sum.inl (some (Value.int v)), _)) ?_
    unfold xb
    rw [if_neg (by rw [sS_same]; decide), if_neg (fun q => q.1 h1)]
  · rw [if_pos (fun q => h1 ((nI_e0 (by omega)).mp q)), if_neg h1]
    by_cases h2 : g = 0
    · rw [if_neg (fun q => q h2), if_pos h2, t_begins37 ok]
      refine congrArg (fun v => some (Sum.inl (some (Value.int v)), _)) ?_
      unfold xb
      rw [if_neg (by rw [sS_same]; decide), if_neg (fun q => q.2 h2)]
    · rw [if_pos h2, if_neg h2, t_begins37 ok]
      have e : sS (sS (sS s 0 0 0) 38 0 (nI (mNow s))) 0 0 0 = sS (sS s 0 0 0) 38 0 (nI (mNow s)) := by
        funext f j
        simp only [sS_app]
        by_cases q : f = 0 ∧ j = 0
        · obtain ⟨rfl, rfl⟩ := q
          simp
        · rw [if_neg q]
      rw [e]
      refine congrArg (fun v => some (Sum.inl (some (Value.int v)), _)) ?_
      unfold xb
      rw [if_pos (by simp [sS_app]), if_pos ⟨h1, h2⟩]
end MB
