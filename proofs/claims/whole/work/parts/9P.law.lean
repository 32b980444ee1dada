/-! THE LAW'S WALK: current and count, which it asks without catching. -/
section LZ
variable {z : xzs} {h : xH} {m : Nat}
theorem l_stepZ {x o j : Nat} {fC fM : xF} {as : List Value} (I : lInv z x m o j h) (hj : j < 600)
    (hsim : ∀ W K c s n, jS K W c s n → kOk W h → z.1 < h.1 → kC W + 1 < 1200 → K + 10 < 2 ^ 30 → kSimZ z W h K c s n m fC fM as) :
    ∃ v h1 h2 fs fs1, xat h x = some (.inr (0, fs)) ∧ fC (.ref x :: as) h = some (.inl (some (.int v)), h1) ∧ xat h1 m = some (.inr (6, fs1)) ∧ fM (.ref m :: as) h1 = some (.inl (some (.int v)), h2) ∧ lInv z x m o (j + 1) h2 ∧ h2.1 = h.1 := by
  obtain ⟨W, K, c, s, n, i1, i2, i3, i4, i5, i6, i7, i8, i9, ⟨f, i10⟩, i11, i12, i13, i14, i15⟩ := I
  obtain ⟨q, q0, hM, hD, hq, h5⟩ := hsim W K c s n i6 i2 i13 (by omega) (by omega)
  rw [i1, i3] at hD
  have hx : xat h x = some (kCell W c (0, 0)) := by
    rw [← i1]
    have := xat_kPut (c := c) i2 (kDom0 (j := 0) (by decide))
    rw [i3] at this
    exact this
  have hx0 : ∃ fs, kCell W c (0, 0) = .inr (0, fs) := ⟨_, rfl⟩
  obtain ⟨fs, hfs⟩ := hx0
  rw [hfs] at hx
  have hoxn := xat_lt i10
  rcases hD with ⟨w, hD⟩ | ⟨-, W', h', c', hD, ⟨f1, f2, f3, f4, f5, f6⟩, X, ⟨n', J', hC'⟩⟩
  · exact absurd q0 w
  have hA : ∀ a, a < xn h → kA W a = none → xat (kPut W' h' c') a = xat h a := by
    intro a ha hn
    obtain ⟨g1, g2⟩ := f6 a ha hn
    rw [xat_kOut g1, g2]
  have hoA : xat (kPut W' h' c') o = some (.inl (5, 1, .inr (.inl f))) := by rw [hA o hoxn i8, i10]
  have hoA' : kA W' o = none := (f6 o hoxn i8).1
  have hap : kApart W' m := fun a a1 a2 => (f6 a (by have := i4.2; omega) (i7 a a1 a2)).1
  have hn1 : xn (kPut W' h' c') = xn h' := kPut_n _ _ _
  have ok1 : mOk (kPut W' h' c') m := ⟨by show h'.1 ≤ m; rw [f2]; exact i4.1, by rw [hn1]; have := i4.2; omega⟩
  have hm1 : mPut (kPut W' h' c') m s = kPut W' h' c' := mPut_is i4 ok1 i5 (fun a a1 a2 => hA a (by have := i4.2; omega) (i7 a a1 a2))
  obtain ⟨σ, e1, e2, e3, e4, e5, e6, e7, e8, e9⟩ := l_ref (z := z) (x := x) (o := o) (j := j) (c := c') (W := W') ok1 hm1 hap (kPut_idem W' _ c' c') (kOk_of f1 rfl (by rw [hn1]; exact Nat.le_refl _)) i9 hM
  refine ⟨q.2.1, _, _, fs, mFs m s, hx, hD, by rw [← hm1]; exact xat_m0 ok1, e1, ?_, f2⟩
  refine ⟨W', K + 10, c', σ, n', by rw [X.1 0 0 (by decide) (kDom0 (by decide))]; exact i1, e7, e6, e4, e5, jS_mEq J' e2, hap, hoA', i9, ⟨f, by rw [e8, hoA]⟩, by omega, by omega, by show z.1 < h'.1; rw [f2]; exact i13, ?_, ?_⟩
  · rw [e9, hn1]
    show _ ≤ h'.1 + 100 + 4 * (j + 1)
    omega
  · refine Nat.le_trans (show (mPut (kPut W' h' c') m σ).2.1 ≤ h.2.1 + 2100 from f5) ?_
    clear f5 f6 f4
    omega
end LZ
def armZ (P n iK iM : Nat) : Prop := tl P = some (.aload_n 1) ∧ (∀ j, j < n → ldOk (P + 1 + 6 * j) (1 + j)) ∧ tl (P + 1 + 6 * n) = some (.invokevirtual iK) ∧ tl (P + 4 + 6 * n) = some (.aload_n 2) ∧ (∀ j, j < n → ldOk (P + 5 + 6 * n + 6 * j) (1 + j)) ∧ tl (P + 5 + 12 * n) = some (.invokevirtual iM) ∧ tl (P + 8 + 12 * n) = some (.if_icmp .eq (1238 - ((P + 8 + 12 * n : Nat) : Int)))
section LA
variable {z : xzs} {p : Program} {l : Launch} {e : Env} {s : State} {m : MethodId} {below : List Frame} {meth : Method} {c : Code} {H : Heap} {locs : List Loc} {Q : State → Prop} {D : va_G} {dA : Nat → ClassId} {b Ls x M o : Nat} {xs : Nat → Int32} {ls : Array Slot} {i : Int32}
theorem l_armZ {P n iK iM : Nat} {h h1 h2 : xH} {yK yM : MethodName} {fC fM : xF} {v : Int32} {fs fs1 : List Value} (F : lFix z p s m c D dA b Ls xs) (ok : armZ P n iK iM) (hin : ∀ j, j < n → vp_in (i + Int32.ofInt ((1 + j : Nat) : Int)) Ls)
    (gK : mGood z l yK n iK fC) (cK : yK.cls = "CapKernel") (gM : mGood z l yM n iM fM) (cM : yM.cls = "CapKernelModel")
    (a1 : xat h x = some (.inr (0, fs))) (a2 : fC (.ref x :: lAs xs i n) h = some (.inl (some (.int v)), h1)) (a5 : xat h1 M = some (.inr (6, fs1))) (a6 : fM (.ref M :: lAs xs i n) h1 = some (.inl (some (.int v)), h2)) (hb0 : h.1 = s.heap.size) (hc : xn h2 - s.heap.size ≤ 601024) (hs : h2.2.1 ≤ 7293033) (hl : xlv ls 7 (lL b x M o i)) (hA : xAt D dA s locs h H)
    (kk : ∀ ls' H' locs', xlv ls' 7 (lL b x M o i) → xAt D dA s locs' h2 H' → W p l e room_1 s m #[Value.ref b] below meth c H' locs' (xn h2 - s.heap.size) h2.2.1 Q (F0 m 1238 ls' [])) : W p l e room_1 s m #[Value.ref b] below meth c H locs (xn h - s.heap.size) h.2.1 Q (F0 m P ls []) := by
  obtain ⟨o1, o2, o3, o4, o5, o6, o7⟩ := ok
  obtain ⟨bK, mK, cFK, cLK, k1, k2, k3, k4, k5, k6, k7, k8⟩ := gK
  obtain ⟨bM, mM, cFM, cLM, m1, m2, m3, m4, m5, m6, m7, m8⟩ := gM
  have mo1 := (k1 _ _ _ a2).1
  have mo2 := (m1 _ _ _ a6).1
  have q1 : xn h1 ≤ xn h2 := mo2.n
  have q2 : h1.2.1 ≤ h2.2.1 := mo2.2.2
  have hb1 : h1.1 = s.heap.size := (show h1.1 = h.1 from mo1.1).trans hb0
  have hb2 : h2.1 = s.heap.size := (show h2.1 = h1.1 from mo2.1).trans hb1
  have hlen : (lAs xs i n).length = n := by unfold lAs; rw [List.length_map, List.length_range']
  have hX : p.tables.exec = Jvm.exec := F.1.1
  have hB : c.code = code := F.1.2.1
  have up : ∀ {h' : xH} {locs' : List Loc} {H' : Heap}, h'.1 = s.heap.size → xAt D dA s locs' h' H' → va_S (fun q => s.heap.size ≤ q) s.heap H' locs' := by
    intro h' locs' H' e hA'
    have := hA'.2
    rw [e] at this
    exact this
  refine lv_aload_n hX hB ((lcd o1).1.len (by simp [xlen])) rfl (hl.at (i := 1) (v := .ref x) rfl) ?_
  refine ld_args F hl rfl rfl (up hb0 hA) n 1 (P + 1) [.ref x] o2 hin ?_
  refine l_vcall (As := lAs xs i n) (t := []) (rr := ("CapKernel", TC0, 7)) F k1 k2 k3 k4 k5 k6 k7 hlen rfl cK.symm a1 a2 k8 (by decide) hl.1.1 o3 hb0 (by omega) (by omega) hA (fun H1 locs1 hA1 => ?_)
  rw [show P + 1 + 6 * n + 3 = P + 4 + 6 * n by omega]
  refine lv_aload_n hX hB ((lcd o4).1.len (by simp [xlen])) rfl (hl.at (i := 2) (v := .ref M) rfl) ?_
  rw [show P + 4 + 6 * n + 1 = P + 5 + 6 * n by omega]
  refine ld_args F hl rfl rfl (up hb1 hA1) n 1 (P + 5 + 6 * n) [.ref M, .int v] o5 hin ?_
  rw [show P + 5 + 6 * n + 6 * n = P + 5 + 12 * n by omega]
  refine l_vcall (As := lAs xs i n) (t := [.int v]) (rr := ("CapKernelModel", TC6, 42)) F m1 m2 m3 m4 m5 m6 m7 hlen rfl cM.symm a5 a6 m8 (by show 1 + 0 ≤ 8; decide) hl.1.1 o6 hb1 (by omega) (by omega) hA1 (fun H2 locs2 hA2 => ?_)
  rw [show P + 5 + 12 * n + 3 = P + 8 + 12 * n by omega]
  exact lv_icmp_eq (tgt := 1238) hX hB ((lcd o7).1.len (by simp [xlen])) (by omega) (fun _ => kk ls H2 locs2 hl hA2) (fun w => absurd rfl w)
end LA
theorem az_current : armZ 1052 0 126 129 := by
  unfold armZ ldOk tl
  decide +kernel
theorem az_count : armZ 1213 1 136 139 := by
  unfold armZ ldOk tl
  decide +kernel
