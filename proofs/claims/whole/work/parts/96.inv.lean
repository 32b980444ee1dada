/-! Class and reference: discard, by how many objects are there. -/
section LH
variable {z : xzs} {W : kW} {h : xH} {K : Nat}
theorem kRem_fn {c : mS} {n p f : Nat} (h1 : f ≠ 70) (h2 : f ≠ 71) (h3 : f ≠ 72) : kRem c n p f = c f := by
  funext u
  simp only [kRem, kShift, sS_app, h1, h2, h3, false_and, ↓reduceIte]
/-- the reference's side of a capability that is off -/
def sOff (s : mS) (j q p C : Nat) : mS := mRep (sS (sS (sS s 33 0 (nI p)) 12 j 0) 14 q 0) j C
theorem sOff_fn {s : mS} {j q p C f : Nat} (h1 : f ≠ 11) (h2 : f ≠ 12) (h3 : f ≠ 14) (h4 : f ≠ 33) : sOff s j q p C f = s f := by
  funext u
  unfold sOff
  rw [mRep_ne _ _ _ h1, sS_fn h3, sS_fn h2, sS_fn h4]
theorem sOff_12 {s : mS} {j q p C k : Nat} : sOff s j q p C 12 k = if k = j then 0 else s 12 k := by
  unfold sOff
  rw [mRep_ne _ _ _ (by decide)]
  simp only [sS_app, Nat.reduceEqDiff, true_and, false_and, ↓reduceIte]
theorem sOff_14 {s : mS} {j q p C k : Nat} : sOff s j q p C 14 k = if k = q then 0 else s 14 k := by
  unfold sOff
  rw [mRep_ne _ _ _ (by decide)]
  simp only [sS_app, Nat.reduceEqDiff, true_and, false_and, ↓reduceIte]
theorem sOff_11 {s : mS} {j q p C k : Nat} : sOff s j q p C 11 k = if (1 ≤ k ∧ k ≤ C) ∧ ¬ (if k = j then (0 : Int32) else s 12 k) = 0 ∧ s 11 k = nI j then s 11 j else s 11 k := by
  unfold sOff
  rw [mRep_11]
  have e : sS (sS (sS s 33 0 (nI p)) 12 j 0) 14 q 0 12 k = if k = j then 0 else s 12 k := by
    simp only [sS_app, Nat.reduceEqDiff, true_and, false_and, ↓reduceIte]
  rw [e]
  rfl
theorem jE_off {c s : mS} (E : jE W c s) {j q p p0 n o : Nat} : jE W (kOff c j q p0 n (kC W) o) (sOff s j q p (kC W)) := by
  obtain ⟨e1, e2, e3, e4, e5, e6, e8, e9, e10, e11, e12, e14, e13, e7⟩ := E
  have fn := fun f h1 h2 h3 h4 h5 h6 h7 h8 => kO_fn (c := c) (n := n) (j := j) (q := q) (p := p0) (C := kC W) (o := o) (f := f) h1 h2 h3 h4 h5 h6 h7 h8
  have sn := fun f h1 h2 h3 h4 => sOff_fn (s := s) (j := j) (q := q) (p := p) (C := kC W) (f := f) h1 h2 h3 h4
  refine ⟨?_, ?_, ?_, ?_, ?_, ?_, ?_, ?_, ?_, ?_, ?_, ?_, ?_, ?_⟩
  · rw [fn _ (by decide) (by decide) (by decide) (by decide) (by decide) (by decide) (by decide) (by decide), sn _ (by decide) (by decide) (by decide) (by decide)]; exact e1
  · rw [fn _ (by decide) (by decide) (by decide) (by decide) (by decide) (by decide) (by decide) (by decide), sn _ (by decide) (by decide) (by decide) (by decide)]; exact e2
  · rw [fn _ (by decide) (by decide) (by decide) (by decide) (by decide) (by decide) (by decide) (by decide), sn _ (by decide) (by decide) (by decide) (by decide)]; exact e3
  · rw [fn _ (by decide) (by decide) (by decide) (by decide) (by decide) (by decide) (by decide) (by decide), sn _ (by decide) (by decide) (by decide) (by decide)]; exact e4
  · rw [fn _ (by decide) (by decide) (by decide) (by decide) (by decide) (by decide) (by decide) (by decide), sn _ (by decide) (by decide) (by decide) (by decide)]; exact e5
  · rw [fn _ (by decide) (by decide) (by decide) (by decide) (by decide) (by decide) (by decide) (by decide), sn _ (by decide) (by decide) (by decide) (by decide)]; exact e6
  · rw [fn _ (by decide) (by decide) (by decide) (by decide) (by decide) (by decide) (by decide) (by decide), sn _ (by decide) (by decide) (by decide) (by decide)]; exact e8
  · rw [fn _ (by decide) (by decide) (by decide) (by decide) (by decide) (by decide) (by decide) (by decide), sn _ (by decide) (by decide) (by decide) (by decide)]; exact e9
  · rw [fn _ (by decide) (by decide) (by decide) (by decide) (by decide) (by decide) (by decide) (by decide), sn _ (by decide) (by decide) (by decide) (by decide)]; exact e10
  · funext k
    rw [kO_11, sOff_11, e11, e12]
  · funext k
    rw [kO_12, sOff_12, e12]
  · funext k
    rw [kO_14, sOff_14, e14]
  · rw [sn _ (by decide) (by decide) (by decide) (by decide)]; exact e13
  · rw [sn _ (by decide) (by decide) (by decide) (by decide)]; exact e7
theorem jB_off {c s : mS} (J : jB K W c s) {j q p p0 n o : Nat} : jB K W (kOff c j q p0 n (kC W) o) (sOff s j q p (kC W)) := by
  refine jB_of J (fun f hf => ?_) (fun f hf => ?_) (fun x _ => ?_) (Nat.le_refl _) (Nat.le_refl _)
  · exact kO_fn (by omega) (by omega) (by omega) (by omega) (by omega) (by omega) (by omega) (by omega)
  · exact sOff_fn (by omega) (by omega) (by omega) (by omega)
  · rw [kO_fn (f := 1) (by decide) (by decide) (by decide) (by decide) (by decide) (by decide) (by decide) (by decide)]
theorem kMn_off {c : mS} {j q p0 n o : Nat} (hj : c 14 q = nI j) (j2 : j < 2 ^ 31) : kMn c (kOff c j q p0 n (kC W) o) := by
  refine ⟨kO_fn (by decide) (by decide) (by decide) (by decide) (by decide) (by decide) (by decide) (by decide), kO_fn (by decide) (by decide) (by decide) (by decide) (by decide) (by decide) (by decide) (by decide), fun x hx => ?_, fun k hk => ?_, fun f hf => kO_fn (by omega) (by omega) (by omega) (by omega) (by omega) (by omega) (by omega) (by omega)⟩
  · rw [kO_14]
    by_cases e : x = q
    · rw [if_pos e]
      refine Or.inr ⟨rfl, Or.inr ?_⟩
      rw [e, hj, vN_nI j2, kO_12, if_pos rfl]
    · rw [if_neg e]
      exact Or.inl rfl
  · rw [kO_12]
    split
    · rfl
    · exact hk
theorem kMn_end {c : mS} {o o' : Nat} : kMn c (kEnd c o o') := by
  refine ⟨kEnd_fn (by decide) (by decide) (by decide), kEnd_fn (by decide) (by decide) (by decide), fun x hx => Or.inl (by rw [kEnd_fn (by decide) (by decide) (by decide)]), fun k hk => by rw [kEnd_fn (by decide) (by decide) (by decide)]; exact hk, fun f hf => kEnd_fn (by omega) (by omega) (by omega)⟩
theorem kMn_ab {c : mS} {o : Nat} : kMn c (kAbort c o) := by
  refine ⟨kAbort_fn (by decide) (by decide) (by decide) (by decide) (by decide), kAbort_fn (by decide) (by decide) (by decide) (by decide) (by decide), fun x hx => Or.inl (by rw [kAbort_fn (by decide) (by decide) (by decide) (by decide) (by decide)]), fun k hk => by rw [kAbort_fn (by decide) (by decide) (by decide) (by decide) (by decide)]; exact hk, fun f hf => kAbort_fn (by omega) (by omega) (by omega) (by omega) (by omega)⟩
theorem kG0 : kG 0 = 1 := if_pos rfl
/-- what the class does up to the question whether anyone still holds it -/
theorem t_dis0 (ok : kOk W h) {c : mS} {n j q o d p0 ot it : Nat} {g : xF} (J : jA W c n) (j1 : 1 ≤ j) (j2 : j ≤ kC W) (jl : ¬ c 12 j = 0) (S : kS1 W c j ot it) (hq : q = 8 * ot + it) (hp : p0 < n) (hpj : c 70 p0 = nI j) (ho : c 8 j = nI o) (ho2 : o < kT W) (hd : d ≤ 41) {r : xR} (hr : (if ¬ kOff c j q p0 n (kC W) o 61 o = 0 then B_K_discard_56 z g 1 (kPut W h (kOff c j q p0 n (kC W) o)) else xclI (g [.ref (kg W 0 0), .ref (kg W 5 o), .int (nI d)] (kPut W h (kOff c j q p0 n (kC W) o))) fun x11 h10 => B_K_discard_56 z g (1 + x11) h10) = some r) : xfun (K_K_discard z g) 4 [.ref (kg W 0 0), .ref (kg W 1 j), .int (nI d)] (kPut W h c) = some r := by
  refine E_K_discard z g _ (some (kg W 1 j)) _ _ _ ?_
  obtain ⟨s1, s2, s3, s4, s5, s6⟩ := S
  have b2 := J.1.2.1
  have b3 := J.1.2.2.1
  subst hq
  have w1 := kw_cgone (c := c) ok j1 j2 0
  rw [kG0] at w1
  have k3 : (sS c 12 j 0) 1 ot = nI 3 := s3
  have w2 := t_C_leaveSlot (z := z) (c := sS c 12 j 0) ok s1 (by omega) k3 s2 j1 j2 s4 s5
  have U : kUP W (kOff1 c j (8 * ot + it)) n := J.up
  have w3 := t_K_unlist (z := z) (c := kOff1 c j (8 * ot + it)) ok b3 j1 j2 U
  rw [kUn_off J j1 j2 jl hp hpj] at w3
  unfold D_K_discard_0
  rw [show (Int8.ofInt 41).toInt32 = nI 41 from by decide, if_pos (nI_le (by omega) (by decide)), Option.bind_some, ic_1, w1, Option.bind_some, kisC ok j1 j2, Option.bind_some, w2, xclV_some, kisK ok, Option.bind_some]
  show xclV (f_K_unlist z [.ref (kg W 0 0), .ref (kg W 1 j)] (kPut W h (kOff1 c j (8 * ot + it)))) _ = _
  rw [w3, xclV_some, kr_thing ok j1 j2, Option.bind_some, Option.bind_some]
  have e8 : kRem (mRep (kOff1 c j (8 * ot + it)) j (kC W)) n p0 8 j = nI o := by
    rw [kRem_fn (by decide) (by decide) (by decide), mRep_ne _ _ _ (by decide)]
    exact ho
  have e61 : kRem (mRep (kOff1 c j (8 * ot + it)) j (kC W)) n p0 61 o = c 61 o := by
    rw [kRem_fn (by decide) (by decide) (by decide), mRep_ne _ _ _ (by decide)]
    rfl
  rw [e8, vN_nI (by omega), kr_holders ok ho2, Option.bind_some, e61, kw_holders ok ho2, Option.bind_some]
  show ((rdI (kPut W h (kOff c j (8 * ot + it) p0 n (kC W) o)) (kg W 5 o) 5 7).bind fun x9 => _) = _
  rw [kr_holders ok ho2, Option.bind_some, kisK ok, Option.bind_some]
  exact hr
theorem kDisAll (ok : kOk W h) (hK : K + 1 < 2 ^ 30) : ∀ F, kDISP z W h K F
  | 0 => fun c s n j d p R j1 j2 jl hm hF => by omega
  | F + 1 => by
    intro c s n j d p R j1 j2 jl hm hF hp h33 h32
    have D := kDisAll ok hK F
    have R0 := R
    obtain ⟨J, T, E, B⟩ := R
    have J0 := J
    obtain ⟨⟨b1, b2, b3, b4⟩, a1, a2, a3, a4, a5, a6, a7, a8, a9⟩ := J
    obtain ⟨ot, it, S⟩ := J0.s1 j1 j2 jl
    obtain ⟨p0, hp0, hpj⟩ := (a5.2.2 j j1 j2).mp jl
    obtain ⟨⟨o, ho, ho2, ho3⟩, -⟩ := a3 j j1 j2
    have hd40 : d ≤ 40 := by omega
    generalize hqe : 8 * ot + it = q
    have hq : q < 400 := by have := S.1; have := S.2.1; omega
    have hqj : c 14 q = nI j := by rw [← hqe]; exact S.2.2.2.2.2
    have Jf := jA_off J0 j1 j2 jl hq hqj hp0 hpj ho ho2
    have Tf := jAt_off (n := n) T (j := j) (q := q) (p := p0) (o := o)
    have Ef := jE_off E (j := j) (q := q) (p := p) (p0 := p0) (n := n) (o := o)
    have Bf := jB_off B (j := j) (q := q) (p := p) (p0 := p0) (n := n) (o := o)
    have Mf := kMn_off (W := W) (c := c) (j := j) (q := q) (p0 := p0) (n := n) (o := o) hqj (by omega)
    have e6f : kOff c j q p0 n (kC W) o 6 = c 6 := kO_fn (by decide) (by decide) (by decide) (by decide) (by decide) (by decide) (by decide) (by decide)
    have e5f : kOff c j q p0 n (kC W) o 5 = c 5 := kO_fn (by decide) (by decide) (by decide) (by decide) (by decide) (by decide) (by decide) (by decide)
    have e1f : kOff c j q p0 n (kC W) o 1 = c 1 := kO_fn (by decide) (by decide) (by decide) (by decide) (by decide) (by decide) (by decide) (by decide)
    have e8f : kOff c j q p0 n (kC W) o 8 = c 8 := kO_fn (by decide) (by decide) (by decide) (by decide) (by decide) (by decide) (by decide) (by decide)
    have hth : mTh (kOff c j q p0 n (kC W) o) (kT W - 10) = mTh c (kT W - 10) := mTh_congr _ (fun k _ => by rw [e6f])
    have hn1 : 1 ≤ n := by omega
    -- the reference's step
    have es := E
    obtain ⟨z1, z2, z3, z4, z5, z6, z8, z9, z10, z11, z12, z14, z13, z7⟩ := es
    have sl : ¬ s 12 j = 0 := by rw [← z12]; exact jl
    have s8 : s 8 j = nI o := by rw [← z8]; exact ho
    have vo : vN (nI o) = o := vN_nI (by omega)
    have hslot : mSlotOf (sS (sS s 33 0 (nI p)) 12 j 0) (nI j) = some q := by
      refine mSlotOf_eq ?_ hq ?_
      · show s 14 q = nI j
        rw [← z14]; exact hqj
      · intro q' hq' w
        have w : s 14 q' = nI j := w
        rw [← z14] at w
        exact J0.one hq hq' j1 (by omega) hqj w
    have hlf : mLeft (sOff s j q p (kC W)) (nI o) (kC W) = mLeft (kOff c j q p0 n (kC W) o) (nI o) (kC W) := mLeft_cg _ (fun k _ _ => ⟨by rw [sOff_12, kO_12, z12], by rw [sOff_fn (by decide) (by decide) (by decide) (by decide), e8f, z8]⟩)
    have h61 := Jf.2.2.2.2.2.2.1 o ho2
    have ref : ∀ G k0, mDropL (kC W) (1 + G) k0 s = (if o < 5 ∨ 0 < mLeft (kOff c j q p0 n (kC W) o) (nI o) (kC W) then some (sOff s j q p (kC W)) else if s 1 o = nI 3 then some (mPushL o 8 (mAbort (nI o) 4 (sS (sOff s j q p (kC W)) 6 o 0))) else some (mAbort (nI o) 4 (sS (sOff s j q p (kC W)) 6 o 0))).bind (mDropL (kC W) G (k0 + 1)) := by
      intro G k0
      rw [Nat.add_comm 1 G, mDropL_live h33 (by omega) z13 b3 h32 (by omega) sl]
      congr 1
      unfold mDrop1
      rw [hslot]
      show (if s 8 j = nI (vN (s 8 j)) ∧ vN (s 8 j) < 50 ∧ q < 400 then (if vN (s 8 j) < 5 ∨ 0 < mLeft (sOff s j q p (kC W)) (nI (vN (s 8 j))) (kC W) then some (sOff s j q p (kC W)) else if s 1 (vN (s 8 j)) = nI 3 then some (mPushL (vN (s 8 j)) 8 (mAbort (nI (vN (s 8 j))) 4 (sS (sOff s j q p (kC W)) 6 (vN (s 8 j)) 0))) else some (mAbort (nI (vN (s 8 j))) 4 (sS (sOff s j q p (kC W)) 6 (vN (s 8 j)) 0))) else none) = _
      rw [s8, vo, if_pos ⟨rfl, by omega, hq⟩, hlf]
    have r33 : sOff s j q p (kC W) 33 0 = nI p := by
      unfold sOff
      rw [mRep_ne _ _ _ (by decide)]
      simp only [sS_app, Nat.reduceEqDiff, and_self, false_and, ↓reduceIte]
    have r32 : sOff s j q p (kC W) 32 = s 32 := sOff_fn (by decide) (by decide) (by decide) (by decide)
    have sMf : sMn s (sOff s j q p (kC W)) := fun f hf => sOff_fn (by omega) (by omega) (by omega) (by omega)
    have c12j : kOff c j q p0 n (kC W) o 12 j = 0 := by rw [kO_12, if_pos rfl]
    have e56 : ∀ (g : xF) (x : Int32) (H : xH), B_K_discard_56 z g x H = some (.inl (some (.int x)), H) := fun g x H => E_K_discard_56 z g _ _ _ rfl
    -- if it stops here
    have stop : (o < 5 ∨ 0 < mLeft (kOff c j q p0 n (kC W) o) (nI o) (kC W)) → kDc K W n p c s 1 (kOff c j q p0 n (kC W) o) (sOff s j q p (kC W)) := fun hs => ⟨hn1, ⟨Jf, Tf, Ef, Bf⟩, by rw [hth]; exact Nat.le_refl _, ⟨1, fun G k0 => by rw [ref, if_pos hs]; rfl⟩, r33, fun i _ => by rw [r32], Mf, sMf⟩
    by_cases hh : mLeft (kOff c j q p0 n (kC W) o) (nI o) (kC W) = 0
    · have k61 : kOff c j q p0 n (kC W) o 61 o = 0 := by rw [h61, hh, nI_0]
      by_cases ho5 : o < 5
      · -- a server: it stays
        have ho1 : o < 2 := by omega
        refine ⟨1, _, _, Nat.le_refl _, c12j, ?_, stop (Or.inl ho5)⟩
        refine t_dis0 ok J0 j1 j2 jl S hqe.symm hp0 hpj ho ho2 (by omega) ?_
        rw [if_neg (fun w => w k61)]
        have eE : xfun (K_K_endThing z (f_dis z F)) 6 [.ref (kg W 0 0), .ref (kg W 5 o), .int (nI d)] (kPut W h (kOff c j q p0 n (kC W) o)) = some (.inl (some (.int 0)), kPut W h (kOff c j q p0 n (kC W) o)) := by
          refine E_K_endThing z _ _ (some (kg W 5 o)) _ _ _ ?_
          unfold D_K_endThing_0
          rw [Option.bind_some, kr_server ok ho2, Option.bind_some, if_neg (fun w => kSrv_0.mp w ho1), ic_0]
        rw [eE, xclI_some, e56]
        rfl
      · -- an object ends
        have ho5' : 5 ≤ o := by omega
        have ht : ¬ kOff c j q p0 n (kC W) o 6 o = 0 := by
          have := T.1 j j1 j2 jl
          rw [ho, vo] at this
          rw [e6f]
          exact this
        obtain ⟨o', ho'⟩ : ∃ o', (o < 10 → c 5 o = 0) ∧ (10 ≤ o → c 5 o = nI o' ∧ o' < kT W ∧ 5 ≤ o') := by
          rcases Nat.lt_or_ge o 10 with w | w
          · exact ⟨0, fun _ => (a7 o ho2).1 w, fun v => by omega⟩
          · obtain ⟨o', g1, g2, g3⟩ := (a7 o ho2).2 w
            exact ⟨o', fun v => by omega, fun _ => ⟨g3, by omega, g1⟩⟩
        generalize hcf : kOff c j q p0 n (kC W) o = cf at *
        generalize hsf : sOff s j q p (kC W) = sf at *
        have J5 : jA W (kEnd cf o o') (n - 1) := jA_end Jf ho2 ht (fun w => ⟨by rw [e5f]; exact (ho'.2 w).1, (ho'.2 w).2.1⟩)
        have T5 : jAt W (kEnd cf o o') := jAt_end Tf (by omega) hh (by omega) (fun k k1 k2 => by
          obtain ⟨⟨y, y1, y2, -⟩, -⟩ := Jf.2.2.2.1 k k1 k2
          exact ⟨y, y1, by omega⟩)
        have E5 : jE W (kEnd cf o o') (sS sf 6 o 0) := by
          obtain ⟨w1, w2, w3, w4, w5, w6, w8, w9, w10, w11, w12, w14, w13, w7⟩ := Ef
          refine ⟨?_, ?_, ?_, ?_, ?_, ?_, ?_, ?_, ?_, ?_, ?_, ?_, w13, w7⟩
          · rw [kEnd_fn (by decide) (by decide) (by decide)]; exact w1
          · rw [kEnd_fn (by decide) (by decide) (by decide)]; exact w2
          · rw [kEnd_fn (by decide) (by decide) (by decide)]; exact w3
          · rw [kEnd_fn (by decide) (by decide) (by decide)]; exact w4
          · rw [kEnd_fn (by decide) (by decide) (by decide)]; exact w5
          · funext k
            rw [kEnd_6, sS_app, w6]
            simp only [true_and]
          · rw [kEnd_fn (by decide) (by decide) (by decide)]; exact w8
          · rw [kEnd_fn (by decide) (by decide) (by decide)]; exact w9
          · rw [kEnd_fn (by decide) (by decide) (by decide)]; exact w10
          · rw [kEnd_fn (by decide) (by decide) (by decide)]; exact w11
          · rw [kEnd_fn (by decide) (by decide) (by decide)]; exact w12
          · rw [kEnd_fn (by decide) (by decide) (by decide)]; exact w14
        have B5 : jB K W (kEnd cf o o') (sS sf 6 o 0) := jB_of Bf (fun f hf => kEnd_fn (by omega) (by omega) (by omega)) (fun f hf => sS_fn (by omega)) (fun x _ => by rw [kEnd_fn (by decide) (by decide) (by decide)]) (Nat.le_refl _) (Nat.le_refl _)
        have B6 := jB_abort B5 b2 hK ho2
        have J6 := jA_ab J5 (o := o)
        have T6 := jAt_ab T5 (o := o)
        have E6 : jE W (kAbort (kEnd cf o o') o) (mAbort (nI o) 4 (sS sf 6 o 0)) := by
          obtain ⟨w1, w2, w3, w4, w5, w6, w8, w9, w10, w11, w12, w14, w13, w7⟩ := E5
          refine ⟨?_, ?_, ?_, ?_, ?_, ?_, ?_, ?_, ?_, ?_, ?_, ?_, ?_, ?_⟩
          · rw [kAbort_fn (by decide) (by decide) (by decide) (by decide) (by decide), mAbort_fn (by decide) (by decide) (by decide) (by decide)]; exact w1
          · rw [kAbort_fn (by decide) (by decide) (by decide) (by decide) (by decide), mAbort_fn (by decide) (by decide) (by decide) (by decide)]; exact w2
          · rw [kAbort_fn (by decide) (by decide) (by decide) (by decide) (by decide), mAbort_fn (by decide) (by decide) (by decide) (by decide)]; exact w3
          · rw [kAbort_fn (by decide) (by decide) (by decide) (by decide) (by decide), mAbort_fn (by decide) (by decide) (by decide) (by decide)]; exact w4
          · rw [kAbort_fn (by decide) (by decide) (by decide) (by decide) (by decide), mAbort_fn (by decide) (by decide) (by decide) (by decide)]; exact w5
          · rw [kAbort_fn (by decide) (by decide) (by decide) (by decide) (by decide), mAbort_fn (by decide) (by decide) (by decide) (by decide)]; exact w6
          · rw [kAbort_fn (by decide) (by decide) (by decide) (by decide) (by decide), mAbort_fn (by decide) (by decide) (by decide) (by decide)]; exact w8
          · rw [kAbort_fn (by decide) (by decide) (by decide) (by decide) (by decide), mAbort_fn (by decide) (by decide) (by decide) (by decide)]; exact w9
          · rw [kAbort_fn (by decide) (by decide) (by decide) (by decide) (by decide), mAbort_fn (by decide) (by decide) (by decide) (by decide)]; exact w10
          · rw [kAbort_fn (by decide) (by decide) (by decide) (by decide) (by decide), mAbort_fn (by decide) (by decide) (by decide) (by decide)]; exact w11
          · rw [kAbort_fn (by decide) (by decide) (by decide) (by decide) (by decide), mAbort_fn (by decide) (by decide) (by decide) (by decide)]; exact w12
          · rw [kAbort_fn (by decide) (by decide) (by decide) (by decide) (by decide), mAbort_fn (by decide) (by decide) (by decide) (by decide)]; exact w14
          · rw [mAbort_fn (by decide) (by decide) (by decide) (by decide)]; exact w13
          · rw [mAbort_fn (by decide) (by decide) (by decide) (by decide)]; exact w7
        have M6 : kMn c (kAbort (kEnd cf o o') o) := Mf.tr (kMn_end.tr kMn_ab)
        have sM6 : sMn s (mAbort (nI o) 4 (sS sf 6 o 0)) := sMf.tr (fun f hf => by rw [mAbort_fn (by omega) (by omega) (by omega) (by omega), sS_fn (by omega)])
        have c126 : kAbort (kEnd cf o o') o 12 j = 0 := (kMn_end.tr kMn_ab).2.2.2.1 j c12j
        have s633 : mAbort (nI o) 4 (sS sf 6 o 0) 33 0 = nI p := by
          rw [mAbort_fn (by decide) (by decide) (by decide) (by decide)]
          exact r33
        have s632 : mAbort (nI o) 4 (sS sf 6 o 0) 32 = s 32 := by
          rw [mAbort_fn (by decide) (by decide) (by decide) (by decide)]
          exact r32
        have th6 : mTh (kAbort (kEnd cf o o') o) (kT W - 10) = mTh (kEnd cf o o') (kT W - 10) := mTh_congr _ (fun k _ => by rw [kAbort_fn (by decide) (by decide) (by decide) (by decide) (by decide)])
        have th5 : mTh (kEnd cf o o') (kT W - 10) + (if 10 ≤ o then 1 else 0) = mTh c (kT W - 10) := by
          rcases Nat.lt_or_ge o 10 with w | w
          · rw [if_neg (by omega), ← hth, Nat.add_zero]
            exact mTh_congr _ (fun k _ => by rw [kEnd_6, if_neg (by omega)])
          · have := mTh_end (c := cf) (c' := kEnd cf o o') w ht (fun k => kEnd_6) (kT W - 10)
            rw [if_pos (by omega)] at this
            rw [if_pos w, this, hth]
        have k1e : kAbort (kEnd cf o o') o 1 = c 1 := M6.1
        -- the class up to the loop
        have eE : ∀ r, B_K_endThing_54 z (f_dis z F) (kg W 0 0) (some (kg W 5 o)) (nI d) 0 0 (kPut W h (kAbort (kEnd cf o o') o)) = some r → xfun (K_K_endThing z (f_dis z F)) 6 [.ref (kg W 0 0), .ref (kg W 5 o), .int (nI d)] (kPut W h cf) = some r := by
          intro r hr
          have e44 : B_K_endThing_44 z (f_dis z F) (kg W 0 0) (some (kg W 5 o)) (nI d) (kPut W h (kEnd cf o o')) = some r := by
            refine E_K_endThing_44 z _ _ _ _ _ _ ?_
            unfold D_K_endThing_44
            rw [kisK ok, Option.bind_some]
            show xclV (f_K_abortAllAt z [.ref (kg W 0 0), .ref (kg W 5 o)] (kPut W h (kEnd cf o o'))) _ = _
            rw [t_K_abortAllAt ok J5.wf B5.wa ho2, xclV_some, ic_0]
            exact hr
          refine E_K_endThing z _ _ (some (kg W 5 o)) _ _ _ ?_
          have w1 := kw_tgone (c := cf) ok ho2 0
          rw [kG0] at w1
          unfold D_K_endThing_0
          rw [Option.bind_some, kr_server ok ho2, Option.bind_some, if_pos (kSrv_0.mpr (by omega)), ic_1, w1, Option.bind_some, kr_madeOf ok ho2, Option.bind_some]
          have e5 : sS cf 6 o 0 5 o = c 5 o := by
            show cf 5 o = c 5 o
            rw [e5f]
          rw [e5]
          rcases Nat.lt_or_ge o 10 with w | w
          · rw [ho'.1 w, show kRO W 0 = none from if_pos rfl, xcase_n]
            have : kEnd cf o o' = sS cf 6 o 0 := if_pos w
            rw [this] at e44
            exact e44
          · obtain ⟨g1, g2, g3⟩ := ho'.2 w
            rw [g1, kRO_n (by omega) (by omega), xcase_s, Option.bind_some, Option.bind_some, kr_madeOfIt ok g2, Option.bind_some, kw_madeOfIt ok g2, Option.bind_some, kr_stillThere ok, Option.bind_some, kw_stillThere ok, Option.bind_some]
            have : kEnd cf o o' = sS (sS (sS cf 6 o 0) 62 o' (cf 62 o' - 1)) 68 0 (cf 68 0 - 1) := if_neg (by omega)
            rw [this] at e44
            exact e44
        by_cases hk3 : c 1 o = nI 3
        · -- a table
          have ho10 : 10 ≤ o := (a9.2.2.2.2 o ho2 hk3).resolve_left (by omega)
          rw [if_pos ho10] at th5
          have hx : ∀ i, i < 8 → kAbort (kEnd cf o o') o 14 (8 * o + i) = 0 ∨ ∃ k, 1 ≤ k ∧ k ≤ kC W ∧ kAbort (kEnd cf o o') o 14 (8 * o + i) = nI k := by
            intro i hi
            rcases J6.2.1 (8 * o + i) (by omega) with w | ⟨k, k1, k2, k3, -⟩
            · exact Or.inl w
            · exact Or.inr ⟨k, k1, k2, k3⟩
          obtain ⟨u1, u2, u3, u4⟩ := mPushL_spec (o := o) (p := p) (x := fun i => kAbort (kEnd cf o o') o 14 (8 * o + i)) (by omega) 8 (mAbort (nI o) 4 (sS sf 6 o 0)) (Nat.le_refl _) (fun i _ => by rw [← E6.2.2.2.2.2.2.2.2.2.2.2.1]) s633 (fun i h1 h2 => by omega)
          have E7 : jE W (kAbort (kEnd cf o o') o) (mPushL o 8 (mAbort (nI o) 4 (sS sf 6 o 0))) := by
            obtain ⟨w1, w2, w3, w4, w5, w6, w8, w9, w10, w11, w12, w14, w13, w7⟩ := E6
            refine ⟨?_, ?_, ?_, ?_, ?_, ?_, ?_, ?_, ?_, ?_, ?_, ?_, ?_, ?_⟩
            · rw [u1 _ (by decide) (by decide)]; exact w1
            · rw [u1 _ (by decide) (by decide)]; exact w2
            · rw [u1 _ (by decide) (by decide)]; exact w3
            · rw [u1 _ (by decide) (by decide)]; exact w4
            · rw [u1 _ (by decide) (by decide)]; exact w5
            · rw [u1 _ (by decide) (by decide)]; exact w6
            · rw [u1 _ (by decide) (by decide)]; exact w8
            · rw [u1 _ (by decide) (by decide)]; exact w9
            · rw [u1 _ (by decide) (by decide)]; exact w10
            · rw [u1 _ (by decide) (by decide)]; exact w11
            · rw [u1 _ (by decide) (by decide)]; exact w12
            · rw [u1 _ (by decide) (by decide)]; exact w14
            · rw [u1 _ (by decide) (by decide)]; exact w13
            · rw [u1 _ (by decide) (by decide)]; exact w7
          have B7 : jB K W (kAbort (kEnd cf o o') o) (mPushL o 8 (mAbort (nI o) 4 (sS sf 6 o 0))) := jB_of B6 (fun _ _ => rfl) (fun f hf => u1 f (by omega) (by omega)) (fun _ _ => rfl) (Nat.le_refl _) (Nat.le_refl _)
          obtain ⟨kl, c', s', v1, v2, v3, v4, ⟨G1, v5⟩, v6, v7, v8, v9⟩ := kDis_loop ok D ho2 hd40 hp (x := fun i => kAbort (kEnd cf o o') o 14 (8 * o + i)) hx 8 0 0 (n - 1) (kAbort (kEnd cf o o') o) (mPushL o 8 (mAbort (nI o) 4 (sS sf 6 o 0))) rfl ⟨J6, T6, E7, B7⟩ (by omega) (by omega) (by rw [k1e]; exact hk3) u2 (fun i' _ h2 h3 => u3 i' h2 h3) (fun i' _ _ => Or.inl rfl)
          refine ⟨1 + kl, c', s', by omega, v8.2.2.2.1 j c126, ?_, by omega, by rw [show n - (1 + kl) = n - 1 - kl by omega]; exact v3, by omega, ⟨1 + G1, fun G k0 => ?_⟩, v6, fun i hi => ?_, M6.tr v8, sM6.tr (sMn.tr (fun f hf => u1 f (by omega) (by omega)) v9)⟩
          · refine t_dis0 ok J0 j1 j2 jl S hqe.symm hp0 hpj ho ho2 (by omega) ?_
            rw [hcf, if_neg (fun w => w k61), eE _ v1, xclI_some, e56, Nat.zero_add]
            show some ((Sum.inl (some (.int (nI 1 + nI kl))) : xO), kPut W h c') = _
            rw [nI_add]
          · rw [show 1 + G1 + G = 1 + (G1 + G) by omega, ref, if_neg (by omega), if_pos (by rw [← z1]; exact hk3)]
            show mDropL (kC W) (G1 + G) (k0 + 1) _ = _
            rw [v5, Nat.add_assoc]
          · rw [v7 i hi, u4 i hi, s632]
        · -- no slots
          have e54 : B_K_endThing_54 z (f_dis z F) (kg W 0 0) (some (kg W 5 o)) (nI d) 0 0 (kPut W h (kAbort (kEnd cf o o') o)) = some (.inl (some (.int 0)), kPut W h (kAbort (kEnd cf o o') o)) := by
            refine E_K_endThing_54 z _ _ _ _ _ _ _ _ ?_
            unfold D_K_endThing_54
            rw [Option.bind_some, kr_slots ok ho2, Option.bind_some, Option.bind_some, kl_slots ok ho2, Option.bind_some, show (if kAbort (kEnd cf o o') o 1 o = nI 3 then 8 else 0) = 0 from if_neg (by rw [k1e]; exact hk3), if_pos (show Int32.ofNat 0 ≤ 0 from by decide)]
          refine ⟨1, kAbort (kEnd cf o o') o, mAbort (nI o) 4 (sS sf 6 o 0), Nat.le_refl _, c126, ?_, hn1, ⟨J6, T6, E6, B6⟩, by omega, ⟨1, fun G k0 => ?_⟩, s633, fun i _ => by rw [s632], M6, sM6⟩
          · refine t_dis0 ok J0 j1 j2 jl S hqe.symm hp0 hpj ho ho2 (by omega) ?_
            rw [hcf, if_neg (fun w => w k61), eE _ e54, xclI_some, e56]
            rfl
          · rw [ref, if_neg (by omega), if_neg (by rw [← z1]; exact hk3)]
            rfl
    · have k61 : ¬ kOff c j q p0 n (kC W) o 61 o = 0 := by
        rw [h61]
        have hle : mLeft (kOff c j q p0 n (kC W) o) (nI o) (kC W) ≤ kC W := by
          have : ∀ (c : mS) (x : Int32) m, mLeft c x m ≤ m := by
            intro c x m
            induction m with
            | zero => exact Nat.le_refl _
            | succ m ih => rw [mLeft_succ]; split <;> omega
          exact this _ _ _
        exact nI_ne0 (by omega) (by omega)
      refine ⟨1, _, _, Nat.le_refl _, c12j, ?_, stop (Or.inr (by omega))⟩
      refine t_dis0 ok J0 j1 j2 jl S hqe.symm hp0 hpj ho ho2 (by omega) ?_
      rw [if_pos k61, e56]
      rfl
end LH
