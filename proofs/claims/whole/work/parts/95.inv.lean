/-! Class and reference: a capability is discarded; what it was for ends. -/
def kDc (K : Nat) (W : kW) (n P : Nat) (c s : mS) (k : Nat) (c' s' : mS) : Prop := k ≤ n ∧ kRel K W c' s' (n - k) ∧ mTh c' (kT W - 10) ≤ mTh c (kT W - 10) ∧ (∃ G', ∀ G k0, mDropL (kC W) (G' + G) k0 s = mDropL (kC W) G (k0 + k) s') ∧ s' 33 0 = nI P ∧ (∀ i, i < P → s' 32 i = s 32 i) ∧ kMn c c' ∧ sMn s s'
def kDISP (z : xzs) (W : kW) (h : xH) (K F : Nat) : Prop := ∀ (c s : mS) (n j d p : Nat), kRel K W c s n → 1 ≤ j → j ≤ kC W → ¬ c 12 j = 0 → d + mTh c (kT W - 10) ≤ 40 → mTh c (kT W - 10) < F → p ≤ 8 * d → s 33 0 = nI (p + 1) → s 32 p = nI j → ∃ k c' s', 1 ≤ k ∧ c' 12 j = 0 ∧ f_dis z F [.ref (kg W 0 0), .ref (kg W 1 j), .int (nI d)] (kPut W h c) = some (.inl (some (.int (nI k))), kPut W h c') ∧ kDc K W n p c s k c' s'
section LG
variable {z : xzs} {W : kW} {h : xH} {K : Nat}
theorem sMn_33 {s : mS} (v : Int32) : sMn s (sS s 33 0 v) := fun f hf => sS_fn (by omega)
theorem cn_mono (x : Nat → Int32) : ∀ a b, a ≤ b → b ≤ 8 → cn x (8 - b) b ≤ cn x (8 - a) a := by
  intro a b hab hb
  obtain ⟨t, rfl⟩ := Nat.exists_eq_add_of_le hab
  clear hab
  induction t with
  | zero => exact Nat.le_refl _
  | succ t ih =>
    have := cn_at x (show a + t < 8 by omega)
    have := ih (by omega)
    rw [show a + (t + 1) = a + t + 1 by omega]
    omega
theorem kDis_loop (ok : kOk W h) {F : Nat} (D : kDISP z W h K F) {o d P : Nat} {x : Nat → Int32} (ho : o < kT W) (hd : d ≤ 40) (hP : P ≤ 8 * d) (hx : ∀ i, i < 8 → x i = 0 ∨ ∃ k, 1 ≤ k ∧ k ≤ kC W ∧ x i = nI k) : ∀ (m i a n : Nat) (c s : mS), i + m = 8 → kRel K W c s n → (d + 1) + mTh c (kT W - 10) ≤ 40 → mTh c (kT W - 10) < F → c 1 o = nI 3 → s 33 0 = nI (P + cn x (8 - i) i) → (∀ i', i ≤ i' → i' < 8 → ¬ x i' = 0 → s 32 (P + cn x (8 - (i' + 1)) (i' + 1)) = x i') → (∀ i', i ≤ i' → i' < 8 → c 14 (8 * o + i') = x i' ∨ (c 14 (8 * o + i') = 0 ∧ (x i' = 0 ∨ c 12 (vN (x i')) = 0))) → ∃ k c' s', B_K_endThing_54 z (f_dis z F) (kg W 0 0) (some (kg W 5 o)) (nI d) (nI a) (nI i) (kPut W h c) = some (.inl (some (.int (nI (a + k)))), kPut W h c') ∧ kDc K W n P c s k c' s'
  | 0, i, a, n, c, s, hi, R, hm, hF, hk, h33, h32, h14 => by
    refine ⟨0, c, s, E_K_endThing_54 z _ _ _ _ _ _ _ _ ?_, Nat.zero_le _, R, Nat.le_refl _, ⟨0, fun G k0 => by rw [Nat.zero_add]; rfl⟩, ?_, fun _ _ => rfl, kMn.rf, sMn.rf⟩
    · unfold D_K_endThing_54
      rw [Option.bind_some, kr_slots ok ho, Option.bind_some, Option.bind_some, kl_slots ok ho, Option.bind_some, if_pos hk, if_pos (show Int32.ofNat 8 ≤ nI i from nI_le (by omega) (by omega))]
      rfl
    · have : i = 8 := by omega
      subst this
      exact h33
  | m + 1, i, a, n, c, s, hi, R, hm, hF, hk, h33, h32, h14 => by
    have hi8 : i < 8 := by omega
    have J := R.1
    have b2 := J.1.2.1
    have b3 := J.1.2.2.1
    have E := R.2.2.1
    have hcn := cn_at x hi8
    have hle := cn_le x (8 - (i + 1)) (i + 1)
    have go : ∀ r, (xcase (kRC W (c 14 (8 * o + i))) (B_K_endThing_89 z (f_dis z F) (kg W 0 0) (some (kg W 5 o)) (nI d) (nI a) (nI i) (kPut W h c)) fun a19 => xclI (f_dis z F [.ref (kg W 0 0), .ref a19, .int (nI (d + 1))] (kPut W h c)) fun x21 h20 => B_K_endThing_89 z (f_dis z F) (kg W 0 0) (some (kg W 5 o)) (nI d) (nI a + x21) (nI i) h20) = some r → B_K_endThing_54 z (f_dis z F) (kg W 0 0) (some (kg W 5 o)) (nI d) (nI a) (nI i) (kPut W h c) = some r := by
      intro r q
      refine E_K_endThing_54 z _ _ _ _ _ _ _ _ ?_
      unfold D_K_endThing_54
      rw [Option.bind_some, kr_slots ok ho, Option.bind_some, Option.bind_some, kl_slots ok ho, Option.bind_some, if_pos hk, if_neg (show ¬ Int32.ofNat 8 ≤ nI i from nI_ge hi8 (by decide)), kisT ok ho, Option.bind_some, t_T_held ok ho hi8, xclR_some, if_pos hk, kisK ok, ic_1, nI_1]
      exact q
    have e89 : ∀ (a' : Nat) (c' : mS) r, B_K_endThing_54 z (f_dis z F) (kg W 0 0) (some (kg W 5 o)) (nI d) (nI a') (nI (i + 1)) (kPut W h c') = some r → B_K_endThing_89 z (f_dis z F) (kg W 0 0) (some (kg W 5 o)) (nI d) (nI a') (nI i) (kPut W h c') = some r := by
      intro a' c' r q
      refine E_K_endThing_89 z _ _ _ _ _ _ _ _ ?_
      unfold D_K_endThing_89
      rw [ic_1, nI_1]
      exact q
    by_cases e0 : x i = 0
    · -- nothing stood there
      rw [if_pos e0, Nat.zero_add] at hcn
      have hz : c 14 (8 * o + i) = 0 := by
        rcases h14 i (Nat.le_refl _) hi8 with w | w
        · rw [w, e0]
        · exact w.1
      obtain ⟨k, c', s', q, r⟩ := kDis_loop ok D ho hd hP hx m (i + 1) a n c s (by omega) R hm hF hk (by rw [← hcn]; exact h33) (fun i' h1 h2 => h32 i' (by omega) h2) (fun i' h1 h2 => h14 i' (by omega) h2)
      refine ⟨k, c', s', go _ ?_, r⟩
      rw [hz, kRC_0, xcase_n]
      exact e89 a c _ q
    · rw [if_neg e0] at hcn
      obtain ⟨kx, kx1, kx2, kx3⟩ := (hx i hi8).resolve_left e0
      have vx : vN (x i) = kx := by rw [kx3, vN_nI (by omega)]
      have h32i := h32 i (Nat.le_refl _) hi8 e0
      have h33' : s 33 0 = nI (P + cn x (8 - (i + 1)) (i + 1) + 1) := by
        rw [h33, hcn, show P + (1 + cn x (8 - (i + 1)) (i + 1)) = P + cn x (8 - (i + 1)) (i + 1) + 1 by omega]
      by_cases ed : c 12 kx = 0
      · -- it is gone already
        have hz : c 14 (8 * o + i) = 0 := by
          rcases h14 i (Nat.le_refl _) hi8 with w | w
          · rw [kx3] at w
            exact absurd ed (J.lv (by omega) kx1 (by omega) w).2.1
          · exact w.1
        obtain ⟨k, c', s', q, r1, r2, r3, ⟨G', r4⟩, r5, r6, r7, r8⟩ := kDis_loop ok D ho hd hP hx m (i + 1) a n c (sS s 33 0 (nI (P + cn x (8 - (i + 1)) (i + 1)))) (by omega) R hm hF hk (by rw [sS_app, if_pos ⟨rfl, rfl⟩]) (fun i' h1 h2 => h32 i' (by omega) h2) (fun i' h1 h2 => h14 i' (by omega) h2)
        refine ⟨k, c', s', go _ ?_, r1, r2, r3, ⟨G' + 1, fun G k0 => ?_⟩, r5, r6, r7, sMn.tr (sMn_33 _) r8⟩
        · rw [hz, kRC_0, xcase_n]
          exact e89 a c _ q
        · have sd : s 12 kx = 0 := by rw [← E.2.2.2.2.2.2.2.2.2.2.1]; exact ed
          rw [show G' + 1 + G = (G' + G) + 1 by omega, mDropL_dead h33' (by omega) E.2.2.2.2.2.2.2.2.2.2.2.2.1 b3 (by rw [h32i, kx3]) (by omega) sd]
          exact r4 G k0
      · -- it lives
        have hz : c 14 (8 * o + i) = nI kx := by
          rcases h14 i (Nat.le_refl _) hi8 with w | w
          · rw [w, kx3]
          · exact absurd (w.2.resolve_left e0) (by rw [vx]; exact ed)
        obtain ⟨k1, c1, s1, q1, q2, q3, q4, q5, q6, ⟨G1, q7⟩, q8, q9, q10, q11⟩ := D c s n kx (d + 1) (P + cn x (8 - (i + 1)) (i + 1)) R kx1 kx2 ed hm hF (by omega) h33' (by rw [h32i, kx3])
        obtain ⟨k, c', s', q, r1, r2, r3, ⟨G', r4⟩, r5, r6, r7, r8⟩ := kDis_loop ok D ho hd hP hx m (i + 1) (a + k1) (n - k1) c1 s1 (by omega) q5 (by omega) (by omega) (by rw [q10.1]; exact hk) q8 (fun i' h1 h2 h3 => by
          have l1 := cn_at x h2
          rw [if_neg h3] at l1
          have l2 := cn_mono x (i + 1) i' h1 (by omega)
          rw [q9 _ (by omega)]
          exact h32 i' (by omega) h2 h3) (fun i' h1 h2 => by
          rcases q10.2.2.1 (8 * o + i') (by omega) with w | ⟨w, w2⟩
          · rw [w]
            rcases h14 i' (by omega) h2 with y | ⟨y, y2⟩
            · exact Or.inl y
            · exact Or.inr ⟨y, y2.elim Or.inl (fun v => Or.inr (q10.2.2.2.1 _ v))⟩
          · rcases h14 i' (by omega) h2 with y | ⟨y, y2⟩
            · rw [y] at w2
              exact Or.inr ⟨w, w2⟩
            · exact Or.inr ⟨w, y2.elim Or.inl (fun v => Or.inr (q10.2.2.2.1 _ v))⟩)
        refine ⟨k1 + k, c', s', go _ ?_, by omega, by rw [show n - (k1 + k) = n - k1 - k by omega]; exact r2, by omega, ⟨G1 + G', fun G k0 => ?_⟩, r5, fun u hu => (r6 u hu).trans (q9 u (by omega)), q10.tr r7, q11.tr r8⟩
        · rw [hz, kRC_n kx1 (by omega), xcase_s, q3, xclI_some, nI_add, ← Nat.add_assoc]
          exact e89 _ _ _ q
        · rw [show G1 + G' + G = G1 + (G' + G) by omega, q7, r4, Nat.add_assoc]
end LG
