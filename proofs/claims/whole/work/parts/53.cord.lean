/-! THE CLASS: order -/
theorem Sh_mono {N : Nat} {kd kd' : Nat → Option hK} {r r' : Nat → Nat → Option Nat} (h : Sh N kd r) (hk : ∀ q, q < 8 + 30 * N → kd' q = kd q) (hr : ∀ q j, q < 8 + 30 * N → r' q j = r q j) : Sh N kd' r' := by
  obtain ⟨hN, k1, a1, a2, a3, k2, k3, b0, b1, k4, k5, k6, hm⟩ := h
  refine ⟨hN, (hk _ (by omega)).trans k1, (hr _ _ (by omega)).trans a1, (hr _ _ (by omega)).trans a2, (hr _ _ (by omega)).trans a3, (hk _ (by omega)).trans k2, (hk _ (by omega)).trans k3, (hr _ _ (by omega)).trans b0, (hr _ _ (by omega)).trans b1, (hk _ (by omega)).trans k4, (hk _ (by omega)).trans k5, (hk _ (by omega)).trans k6, fun i hi => ?_⟩
  obtain ⟨c0, m0, m1, m2, m3, m4, m5, ⟨s0, s1, s2, s3, s4, s5, s6, s7, s8, s9, s10, s11, s12, s13, s14, s15⟩, m7⟩ := hm i hi
  exact ⟨(hr _ _ (by omega)).trans c0, (hk _ (by omega)).trans m0, (hr _ _ (by omega)).trans m1, (hr _ _ (by omega)).trans m2, (hr _ _ (by omega)).trans m3, (hk _ (by omega)).trans m4, (hk _ (by omega)).trans m5, ⟨(hk _ (by omega)).trans s0, (hr _ _ (by omega)).trans s1, (hr _ _ (by omega)).trans s2, (hr _ _ (by omega)).trans s3, (hr _ _ (by omega)).trans s4, (hr _ _ (by omega)).trans s5, (hr _ _ (by omega)).trans s6, (hk _ (by omega)).trans s7, (hk _ (by omega)).trans s8, (hk _ (by omega)).trans s9, (hk _ (by omega)).trans s10, (hk _ (by omega)).trans s11, (hk _ (by omega)).trans s12, fun k hk' => (hr _ _ (by omega)).trans (s13 k hk'), fun k hk' => (hk _ (by omega)).trans (s14 k hk'), s15⟩, m7⟩
theorem rs_mono {Y : Nat} {kd kd' : Nat → Option hK} {r r' : Nat → Nat → Option Nat} (h : rs kd r Y) (hk : ∀ q, Y ≤ q → q < Y + 20 → kd' q = kd q) (hr : ∀ q j, Y ≤ q → q < Y + 20 → r' q j = r q j) : rs kd' r' Y := by
  obtain ⟨k0, r2, r3, r4, r5, r6, r7, r8, r12, r13, r15, r17, r18, r19, r20, r21, r22, r23, r24, r25, k1, k2, k3, k4, k5, k6, k7, k8, k9, k10, k11, k12, k13, k14, k15, k16, k17, k18, k19, hY⟩ := h
  have K : ∀ j v, j < 20 → kd (Y + j) = v → kd' (Y + j) = v := fun j v hj e => (hk _ (by omega) (by omega)).trans e
  have R : ∀ j v, r Y j = v → r' Y j = v := fun j v e => (hr _ _ (by omega) (by omega)).trans e
  exact ⟨K 0 _ (by omega) k0, R _ _ r2, R _ _ r3, R _ _ r4, R _ _ r5, R _ _ r6, R _ _ r7, R _ _ r8, R _ _ r12, R _ _ r13, R _ _ r15, R _ _ r17, R _ _ r18, R _ _ r19, R _ _ r20, R _ _ r21, R _ _ r22, R _ _ r23, R _ _ r24, R _ _ r25, K 1 _ (by omega) k1, K 2 _ (by omega) k2, K 3 _ (by omega) k3, K 4 _ (by omega) k4, K 5 _ (by omega) k5, K 6 _ (by omega) k6, K 7 _ (by omega) k7, K 8 _ (by omega) k8, K 9 _ (by omega) k9, K 10 _ (by omega) k10, K 11 _ (by omega) k11, K 12 _ (by omega) k12, K 13 _ (by omega) k13, K 14 _ (by omega) k14, K 15 _ (by omega) k15, K 16 _ (by omega) k16, K 17 _ (by omega) k17, K 18 _ (by omega) k18, K 19 _ (by omega) k19, hY⟩
theorem sGr_lt {f : Nat → Nat → Int32} {x nu : Int32} (h0 : 0 < nu) : ∀ n, (sGr f x n < nu ↔ ∀ k, k < n → f k 0 = x → f k 1 < nu) := by
  intro n
  induction n with
  | zero => exact ⟨fun _ k hk => absurd hk (Nat.not_lt_zero k), fun _ => h0⟩
  | succ n ih =>
    simp only [sGr]
    constructor
    · intro h k hk hx
      by_cases e : k = n
      · subst e
        rw [if_pos hx] at h
        split at h
        · exact h
        · rename_i hc
          rw [i_lt] at h hc ⊢
          omega
      · refine ih.mp ?_ k (by omega) hx
        split at h
        · split at h
          · rename_i hc
            rw [i_lt] at h hc ⊢
            omega
          · exact h
        · exact h
    · intro h
      have h1 := ih.mpr (fun k hk => h k (by omega))
      split
      · rename_i hx
        split
        · exact h n (by omega) hx
        · exact h1
      · exact h1
theorem pSp_cong {N m : Nat} {rch rch' : Nat → Prop} : ∀ (n j : Nat), (∀ i, j ≤ i → i < j + n → (rch i ↔ rch' i)) → ∀ (A : PS) (t : Nat), pSp N rch m n j A t = pSp N rch' m n j A t := by
  intro n
  induction n with
  | zero => intro j _ A t; rfl
  | succ n ih =>
    intro j h A t
    have e : rch j = rch' j := propext (h j (Nat.le_refl _) (by omega))
    have ih' := ih (j + 1) (fun i h1 h2 => h i (by omega) (by omega))
    simp only [pSp, e, ih']
theorem cW_ms {N c : Nat} {kd : Nat → Option hK} {d0 d : Nat → Nat → Int32} {r0 r : Nat → Nat → Option Nat} {A : PS} (h : cW N kd d0 r0 A d r) (k1 : kd 1 = some (.inl 5)) (hc : c ≤ 40) : cW N kd d0 r0 (pMs A c) (hu d 1 4 (nI c)) r := by
  obtain ⟨w1, w2, w3, w4, w5, w6, w7, w8⟩ := h
  refine ⟨fun q i a b => by rw [hu_n (by omega)]; exact w1 q i a b, w2, w3, fun i hi => ?_, hu_s, (hu_n (by omega)).trans w6, hc, w8⟩
  obtain ⟨b4, b5, b6, b7, c1, c2, c3, c4, c5⟩ := w4 i hi
  refine ⟨(hu_n (by omega)).trans b4, (hu_n (by omega)).trans b5, (hu_n (by omega)).trans b6, (hu_n (by omega)).trans b7, c1, c2, c3, c4, fun k hk x hx => ?_⟩
  have ho := (w3 i hi k (by have : k < pl A i := hk; omega)).2
  show hu d 1 4 (nI c) (op r (8 + 30 * i) k) x = _
  rw [hu_n (fun q => by rw [q.1, k1] at ho; cases ho)]
  exact c5 k hk x hx
/-- a new object behind all others changes nothing -/
theorem cW_new {N K : Nat} {kd : Nat → Option hK} {d d' : Nat → Nat → Int32} {r : Nat → Nat → Option Nat} {A : PS} {v : hK} (h : cW N kd d r A d r) (hK : 8 + 30 * N ≤ K) (hf : kd K = none) (hd : ∀ q, q ≠ K → d' q = d q) : cW N (hu1 kd K (some v)) d' (hr0 r K) A d' (hr0 r K) := by
  obtain ⟨w1, w2, w3, w4, w5, w6, w7, w8⟩ := h
  have er : ∀ i, i < N → ∀ k, hr0 r K (8 + 30 * i + 1) k = r (8 + 30 * i + 1) k := fun i hi k => if_neg (by omega)
  have eo : ∀ i, i < N → ∀ k, op (hr0 r K) (8 + 30 * i) k = op r (8 + 30 * i) k := fun i hi k => by simp only [op]; rw [er i hi]
  have ne : ∀ i, i < N → ∀ k, k < 60 → op r (8 + 30 * i) k ≠ K := fun i hi k hk e => by
    have := (w3 i hi k hk).2
    rw [e, hf] at this
    cases this
  refine ⟨fun _ _ _ _ => rfl, fun _ _ _ => rfl, fun i hi k hk => ?_, fun i hi => ?_, by rw [hd 1 (by omega)]; exact w5, by rw [hd 1 (by omega)]; exact w6, w7, w8⟩
  · rw [er i hi, eo i hi, hu1_n (ne i hi k hk)]
    exact w3 i hi k hk
  · obtain ⟨b4, b5, b6, b7, c1, c2, c3, c4, c5⟩ := w4 i hi
    rw [hd (8 + 30 * i) (by omega)]
    refine ⟨b4, b5, b6, b7, c1, c2, c3, c4, fun k hk x hx => ?_⟩
    show d' (op (hr0 r K) (8 + 30 * i) k) x = _
    rw [eo i hi, hd _ (ne i hi k (by omega))]
    exact c5 k hk x hx
section CORD
variable {X : hX} {K z : Nat} {kd : Nat → Option hK} {d d0 : Nat → Nat → Int32} {r r0 : Nat → Nat → Option Nat} {N m j : Nat} {A : PS} {x y w : Int32}
theorem c_init2 {P : Nat} {a b c e f g h : Int32} (hk : kd P = some (.inl 2)) : Cl X kX2_init [.inr (some P), .inl a, .inl b, .inl c, .inl e, .inl f, .inl g, .inl h] (K, z, kd, d, r) (fun rv M' => rv = none ∧ ∃ d', M' = (K, z, kd, d', r) ∧ (∀ q, q ≠ P → d' q = d q) ∧ ∀ j, j < 7 → d' P j = o7 a b c e f g h j) := by
  refine h_ofWp oX2_init (by decide) (Nat.le_of_ble_eq_true rfl) ?_
  refine wp_aload_n rfl rfl ?_
  refine wp_obj rfl obX2_3 (by decide) (by decide) ?_
  refine wp_aload_n rfl rfl ?_
  refine wp_iload_n rfl rfl ?_
  refine st_putFI rfl fX2_9 rfl rfl rfl rfl ⟨rfl, rfl⟩ (by assumption) ?_
  refine wp_aload_n rfl rfl ?_
  refine wp_iload_n rfl rfl ?_
  refine st_putFI rfl fX2_15 rfl rfl rfl rfl ⟨rfl, rfl⟩ (by assumption) ?_
  refine wp_aload_n rfl rfl ?_
  refine wp_iload_n rfl rfl ?_
  refine st_putFI rfl fX2_18 rfl rfl rfl rfl ⟨rfl, rfl⟩ (by assumption) ?_
  refine wp_aload_n rfl rfl ?_
  refine wp_iload rfl rfl ?_
  refine st_putFI rfl fX2_21 rfl rfl rfl rfl ⟨rfl, rfl⟩ (by assumption) ?_
  refine wp_aload_n rfl rfl ?_
  refine wp_iload rfl rfl ?_
  refine st_putFI rfl fX2_24 rfl rfl rfl rfl ⟨rfl, rfl⟩ (by assumption) ?_
  refine wp_aload_n rfl rfl ?_
  refine wp_iload rfl rfl ?_
  refine st_putFI rfl fX2_27 rfl rfl rfl rfl ⟨rfl, rfl⟩ (by assumption) ?_
  refine wp_aload_n rfl rfl ?_
  refine wp_iload rfl rfl ?_
  refine st_putFI rfl fX2_30 rfl rfl rfl rfl ⟨rfl, rfl⟩ (by assumption) ?_
  refine wp_return rfl rfl ?_
  refine ⟨rfl, _, rfl, fun q hq => ?_, fun j hj => ?_⟩
  · rw [row_n hq, row_n hq, row_n hq, row_n hq, row_n hq, row_n hq, row_n hq]
  · rcases (show j = 0 ∨ j = 1 ∨ j = 2 ∨ j = 3 ∨ j = 4 ∨ j = 5 ∨ j = 6 by omega) with rfl | rfl | rfl | rfl | rfl | rfl | rfl
    · rw [hu_n (by omega), hu_n (by omega), hu_n (by omega), hu_n (by omega), hu_n (by omega), hu_n (by omega), hu_s]; rfl
    · rw [hu_n (by omega), hu_n (by omega), hu_n (by omega), hu_n (by omega), hu_n (by omega), hu_s]; rfl
    · rw [hu_n (by omega), hu_n (by omega), hu_n (by omega), hu_n (by omega), hu_s]; rfl
    · rw [hu_n (by omega), hu_n (by omega), hu_n (by omega), hu_s]; rfl
    · rw [hu_n (by omega), hu_n (by omega), hu_s]; rfl
    · rw [hu_n (by omega), hu_s]; rfl
    · rw [hu_s]; rfl
theorem c_orderB {cl nu ki a b e f : Int32} (hS : Sh N kd r) (hd : d 1 0 = nI N) (hno : ¬ (inR x 0 N ∧ inR cl 0 4 ∧ inR nu 1 1001 ∧ inR y 0 41)) : Cl X kX5_order [.inr (some 1), .inl x, .inl cl, .inl nu, .inl ki, .inl a, .inl b, .inl e, .inl f, .inl y] (K, z, kd, d, r) (fun rv M' => rv = some (.inl (-1)) ∧ M' = (K, z, kd, d, r)) := by
  obtain ⟨hN, k1, a1, a2, a3, k2, k3, b0, b1, k4, k5, k6, hmm⟩ := id hS
  refine h_ofWp oX5_order (by decide) (Nat.le_of_ble_eq_true rfl) ?_
  have bad : Wp X kX5_order K z 33 [some (.inr (some 1)), some (.inl x), some (.inl cl), some (.inl nu), some (.inl ki), some (.inl a), some (.inl b), some (.inl e), some (.inl f), some (.inl y), none] [] (K, z, kd, d, r) (fun rv M' => rv = some (.inl (-1)) ∧ M' = (K, z, kd, d, r)) := by
    refine wp_iconst (v := -1) rfl (by decide) ?_
    refine wp_ireturn rfl .int rfl rfl ?_
    exact ⟨rfl, rfl⟩
  refine wp_aload_n rfl rfl ?_
  refine wp_iload_n rfl rfl ?_
  refine wp_V1 rfl mX5_order_38 (k1) (Nat.le_of_ble_eq_true rfl) (c_isMasterP hS hd) ?_
  rintro _ _ ⟨rfl, ⟨i, hi, rfl, rfl⟩ | ⟨h, rfl⟩⟩
  · refine wp_if_eq (tgt := 33) rfl (by decide) ?_ ?_
    · intro hc
      exact absurd hc (by decide)
    · intro _
      refine wp_aload_n rfl rfl ?_
      refine wp_iload_n rfl rfl ?_
      refine wp_V1 rfl mX5_order_69 (k1) (Nat.le_of_ble_eq_true rfl) (c_isClient) ?_
      rintro _ _ ⟨v, rfl, rfl, hv⟩
      rcases rg_1 hv with ⟨rfl, h1⟩ | ⟨rfl, h1⟩
      · refine wp_if_eq (tgt := 33) rfl (by decide) ?_ ?_
        · intro hc
          exact absurd hc (by decide)
        · intro _
          refine wp_aload_n rfl rfl ?_
          refine wp_iload_n rfl rfl ?_
          refine wp_V1 rfl mX5_order_72 (k1) (Nat.le_of_ble_eq_true rfl) (c_isNumber) ?_
          rintro _ _ ⟨v, rfl, rfl, hv⟩
          rcases rg_1 hv with ⟨rfl, h2⟩ | ⟨rfl, h2⟩
          · refine wp_if_eq (tgt := 33) rfl (by decide) ?_ ?_
            · intro hc
              exact absurd hc (by decide)
            · intro _
              refine wp_aload_n rfl rfl ?_
              refine wp_iload rfl rfl ?_
              refine wp_V1 rfl mX5_order_46 (k1) (Nat.le_of_ble_eq_true rfl) (c_areMessages) ?_
              rintro _ _ ⟨v, rfl, rfl, hv⟩
              rcases rg_1 hv with ⟨rfl, h3⟩ | ⟨rfl, h3⟩
              · exact absurd ⟨⟨i, Nat.zero_le _, hi, rfl⟩, h1, h2, h3⟩ hno
              · refine wp_if_ne (tgt := 35) rfl (by decide) ?_ ?_
                · intro hc
                  exact absurd rfl hc
                · intro _
                  exact bad
          · refine wp_if_eq (tgt := 33) rfl (by decide) ?_ ?_
            · intro _
              exact bad
            · intro hc
              exact absurd rfl hc
      · refine wp_if_eq (tgt := 33) rfl (by decide) ?_ ?_
        · intro _
          exact bad
        · intro hc
          exact absurd rfl hc
  · refine wp_if_eq (tgt := 33) rfl (by decide) ?_ ?_
    · intro _
      exact bad
    · intro hc
      exact absurd rfl hc
/-- the checks are passed -/
theorem c_order0 {c : Nat} {cl nu ki a b e f : Int32} {Q : Option hV → hM → Prop} (hS : Sh N kd r) (hd : d 1 0 = nI N) (hm : m < N) (hc : c ≤ 40) (hcl : inR cl 0 4) (hnu : inR nu 1 1001) (hk : Wp X kX5_order K z 43 [some (.inr (some 1)), some (.inl (nI m)), some (.inl cl), some (.inl nu), some (.inl ki), some (.inl a), some (.inl b), some (.inl e), some (.inl f), some (.inl (nI c)), some (.inr (some (8 + 30 * m)))] [] (K, z, kd, d, r) Q) : Cl X kX5_order [.inr (some 1), .inl (nI m), .inl cl, .inl nu, .inl ki, .inl a, .inl b, .inl e, .inl f, .inl (nI c)] (K, z, kd, d, r) Q := by
  obtain ⟨hN, k1, a1, a2, a3, k2, k3, b0, b1, k4, k5, k6, hmm⟩ := id hS
  have rm := (hmm m hm).1
  refine h_ofWp oX5_order (by decide) (Nat.le_of_ble_eq_true rfl) ?_
  refine wp_aload_n rfl rfl ?_
  refine wp_iload_n rfl rfl ?_
  refine wp_V1 rfl mX5_order_38 (k1) (Nat.le_of_ble_eq_true rfl) (c_isMasterP hS hd) ?_
  rintro _ _ ⟨rfl, ⟨i, hi, e1, rfl⟩ | ⟨h, rfl⟩⟩
  · refine wp_if_eq (tgt := 33) rfl (by decide) ?_ ?_
    · intro hc
      exact absurd hc (by decide)
    · intro _
      refine wp_aload_n rfl rfl ?_
      refine wp_iload_n rfl rfl ?_
      refine wp_V1 rfl mX5_order_69 (k1) (Nat.le_of_ble_eq_true rfl) (c_isClient) ?_
      rintro _ _ ⟨v, rfl, rfl, hv⟩
      rcases rg_1 hv with ⟨rfl, h1⟩ | ⟨rfl, h1⟩
      · refine wp_if_eq (tgt := 33) rfl (by decide) ?_ ?_
        · intro hc
          exact absurd hc (by decide)
        · intro _
          refine wp_aload_n rfl rfl ?_
          refine wp_iload_n rfl rfl ?_
          refine wp_V1 rfl mX5_order_72 (k1) (Nat.le_of_ble_eq_true rfl) (c_isNumber) ?_
          rintro _ _ ⟨v, rfl, rfl, hv⟩
          rcases rg_1 hv with ⟨rfl, h2⟩ | ⟨rfl, h2⟩
          · refine wp_if_eq (tgt := 33) rfl (by decide) ?_ ?_
            · intro hc
              exact absurd hc (by decide)
            · intro _
              refine wp_aload_n rfl rfl ?_
              refine wp_iload rfl rfl ?_
              refine wp_V1 rfl mX5_order_46 (k1) (Nat.le_of_ble_eq_true rfl) (c_areMessages) ?_
              rintro _ _ ⟨v, rfl, rfl, hv⟩
              rcases rg_1 hv with ⟨rfl, h3⟩ | ⟨rfl, h3⟩
              · refine wp_if_ne (tgt := 35) rfl (by decide) ?_ ?_
                · intro _
                  refine wp_aload_n rfl rfl ?_
                  refine st_getR rfl fX5_26 rfl (by assumption) (by assumption) ?_
                  refine wp_iload_n rfl rfl ?_
                  refine st_aald (t0 := 2) rfl (by assumption) rfl rfl (hm) (by first | decide | omega) (rm) ?_
                  refine wp_astore rfl (by decide) ?_
                  exact hk
                · intro hc
                  exact absurd hc (by decide)
              · exact absurd ⟨c, Nat.zero_le _, by omega, rfl⟩ h3
          · exact absurd hnu h2
      · exact absurd hcl h1
  · exact absurd rfl (h m hm)
theorem nI_mod {v N : Nat} (hN : 0 < N) (hN2 : N < 1000) (hv : v < 1000000) : nI v - nI v / nI N * nI N = nI (v % N) := by
  refine (q_div (k := v) (tc := N) (j := v / N) (i := v % N) ?_ (Nat.mod_lt _ hN) (by omega) (by omega)).2
  have := Nat.div_add_mod v N
  rw [Nat.mul_comm] at this
  exact this.symm
theorem c_orderN {c : Nat} {cl nu ki a b e f : Int32} (hS : Sh N kd r) (hd : d 1 0 = nI N) (hW : cW N kd d r A d r) (hm : m < N) (hc : c ≤ 40) (hcl : inR cl 0 4) (hnu : inR nu 1 1001) (hno : ¬ (¬ d (8 + 30 * m) 8 = 0 ∧ pv A m = pn A m ∧ pv A m % N = m)) : Cl X kX5_order [.inr (some 1), .inl (nI m), .inl cl, .inl nu, .inl ki, .inl a, .inl b, .inl e, .inl f, .inl (nI c)] (K, z, kd, d, r) (fun rv M' => rv = some (.inl (-3)) ∧ M' = (K, z, kd, d, r)) := by
  obtain ⟨hN, k1, a1, a2, a3, k2, k3, b0, b1, k4, k5, k6, hmm⟩ := id hS
  have km := (hmm m hm).2.1
  obtain ⟨v4, v5, v6, v7, l60, e60, vb, nb, hlg⟩ := hW.2.2.2.1 m hm
  refine c_order0 hS hd hm hc hcl hnu ?_
  have bad : Wp X kX5_order K z 73 [some (.inr (some 1)), some (.inl (nI m)), some (.inl cl), some (.inl nu), some (.inl ki), some (.inl a), some (.inl b), some (.inl e), some (.inl f), some (.inl (nI c)), some (.inr (some (8 + 30 * m)))] [] (K, z, kd, d, r) (fun rv M' => rv = some (.inl (-3)) ∧ M' = (K, z, kd, d, r)) := by
    refine wp_bipush (v := -3) rfl (by decide) ?_
    refine wp_ireturn rfl .int rfl rfl ?_
    exact ⟨rfl, rfl⟩
  refine wp_aload rfl rfl ?_
  refine st_getI rfl fX5_42 rfl (by assumption) rfl ?_
  refine wp_if_eq (tgt := 73) rfl (by decide) ?_ ?_
  · intro _
    exact bad
  · intro h48
    refine wp_aload rfl rfl ?_
    refine wp_V0 rfl mX5_order_75 (km) (Nat.le_of_ble_eq_true rfl) (c_isNormal km) ?_
    rintro _ _ ⟨rfl, rfl⟩
    by_cases hnm : pv A m = pn A m
    · rw [bI, if_pos (show d (8 + 30 * m) 5 = d (8 + 30 * m) 4 by rw [v4, v5, hnm])]
      refine wp_if_eq (tgt := 73) rfl (by decide) ?_ ?_
      · intro hc
        exact absurd hc (by decide)
      · intro _
        refine wp_aload rfl rfl ?_
        refine st_getI rfl fX5_56 rfl (by assumption) (v4) ?_
        refine wp_aload_n rfl rfl ?_
        refine st_getI rfl fX5_7 rfl (by assumption) (hd) ?_
        refine wp_irem rfl (nI_ne0 (by omega) (by omega)) ?_
        rw [nI_mod (by omega) (by omega) vb]
        refine wp_iload_n rfl rfl ?_
        refine wp_icmp_eq (tgt := 76) rfl (by decide) ?_ ?_
        · intro h70
          exact absurd ⟨h48, hnm, (nI_eq (by have := Nat.mod_lt (pv A m) (show 0 < N by omega); omega) (by omega)).mp h70⟩ hno
        · intro _
          exact bad
    · rw [bI, if_neg (show ¬ d (8 + 30 * m) 5 = d (8 + 30 * m) 4 by rw [v4, v5]; exact fun q => hnm ((nI_eq (by omega) (by omega)).mp q).symm)]
      refine wp_if_eq (tgt := 73) rfl (by decide) ?_ ?_
      · intro _
        exact bad
      · intro hc
        exact absurd rfl hc
theorem c_order {c an : Nat} {cl nu ki a b e f : Int32} (hS : Sh N kd r) (hd : d 1 0 = nI N) (hW : cW N kd d r A d r) (hC : cS N d (pg A) (pd A)) (hI : Inv N A) (hG : gC N d A an) (hm : m < N) (hc : c ≤ 40) (hcl : inR cl 0 4) (hnu : inR nu 1 1001) (hup : ¬ d (8 + 30 * m) 8 = 0) (hnm : pv A m = pn A m) (hld : pv A m % N = m) (hb : pB A + 40 < 1000000) (hv : ∀ i, i < N → pv A i < 900000) (hK : 8 + 30 * N ≤ K) (hfr : kd K = none) :
    Cl X kX5_order [.inr (some 1), .inl (nI m), .inl cl, .inl nu, .inl ki, .inl a, .inl b, .inl e, .inl f, .inl (nI c)] (K, z, kd, d, r) (fun rv M' =>
      (∃ k, k < pd A m ∧ mtc (pg A m) cl nu k ∧ (∀ k', k' < k → ¬ mtc (pg A m) cl nu k') ∧ rv = some (.inl (anS (pg A m) k)) ∧ M' = (K, z, kd, hu (hu (hu d 4 k 1) 5 k (anS (pg A m) k)) 3 2 (nI (an + 1)), r)) ∨
      ((∀ k, k < pd A m → ¬ mtc (pg A m) cl nu k) ∧ ((∃ k, k < pl A m ∧ ltr (pg A m) cl nu k) ∨ pl A m = 60) ∧ rv = some (.inl (-3)) ∧ M' = (K, z, kd, d, r)) ∨
      ((∀ k, k < pl A m → ¬ ltr (pg A m) cl nu k) ∧ pl A m < 60 ∧ ∃ d1 d' r', (∀ q, q ≠ K → d1 q = d q) ∧ cFr N d1 d' ∧ rFc N (hr0 r K) r' ∧ cW N (hu1 kd K (some (.inl 2))) d' r' (pOr N (rcB N d m) m c (o7 cl nu ki a b e f) A) d' r' ∧ cS N d' (pg (pOr N (rcB N d m) m c (o7 cl nu ki a b e f) A)) (pd (pOr N (rcB N d m) m c (o7 cl nu ki a b e f) A)) ∧
        ((∃ k, pd (pOr N (rcB N d m) m c (o7 cl nu ki a b e f) A) m = k + 1 ∧ pl (pOr N (rcB N d m) m c (o7 cl nu ki a b e f) A) m = k + 1 ∧ rv = some (.inl (anS (pg (pOr N (rcB N d m) m c (o7 cl nu ki a b e f) A) m) k)) ∧ M' = (K + 1, z + 7, hu1 kd K (some (.inl 2)), hu (hu (hu d' 4 k 1) 5 k (anS (pg (pOr N (rcB N d m) m c (o7 cl nu ki a b e f) A) m) k)) 3 2 (nI (an + 1)), r')) ∨
         (pd (pOr N (rcB N d m) m c (o7 cl nu ki a b e f) A) m ≠ pl (pOr N (rcB N d m) m c (o7 cl nu ki a b e f) A) m ∧ rv = some (.inl (-2)) ∧ M' = (K + 1, z + 7, hu1 kd K (some (.inl 2)), d', r'))))) := by
  obtain ⟨hN, k1, a1, a2, a3, k2, k3, b0, b1, k4, k5, k6, hmm⟩ := id hS
  obtain ⟨rm, mm⟩ := hmm m hm
  have km := mm.1
  obtain ⟨w1, w2, w3, w4, w5, w6, w7, w8⟩ := id hW
  obtain ⟨v4, v5, v6, v7, l60, e60, vb, nb, hlg⟩ := w4 m hm
  have hdl := (hI.1 m hm).2.1
  obtain ⟨c3, hsq, can⟩ := hC m hm
  have h0nu : (0 : Int32) < nu := by
    obtain ⟨j, j1, j2, rfl⟩ := hnu
    rw [i_lt, i_nI (by omega), show (0 : Int32).toInt = 0 by decide]
    omega
  have hgr : (sGr (lf d r (8 + 30 * m)) cl (pl A m) < nu ↔ ∀ k, k < pl A m → ¬ ltr (pg A m) cl nu k) := by
    rw [sGr_lt h0nu]
    constructor
    · intro h k hk hl
      have h1 := h k hk ((hlg k hk 0 (by omega)).trans hl.1)
      rw [hlg k hk 1 (by omega)] at h1
      have h2 := hl.2
      rw [i_lt] at h1
      rw [i_le] at h2
      omega
    · intro h k hk h0
      rw [hlg k hk 0 (by omega)] at h0
      rw [hlg k hk 1 (by omega)]
      have h1 : ¬ nu ≤ pg A m k 1 := fun q => h k hk ⟨h0, q⟩
      rw [i_le] at h1
      rw [i_lt]
      omega
  refine c_order0 hS hd hm hc hcl hnu ?_
  generalize hQ : (fun (rv : Option hV) (M' : hM) =>
      (∃ k, k < pd A m ∧ mtc (pg A m) cl nu k ∧ (∀ k', k' < k → ¬ mtc (pg A m) cl nu k') ∧ rv = some (.inl (anS (pg A m) k)) ∧ M' = (K, z, kd, hu (hu (hu d 4 k 1) 5 k (anS (pg A m) k)) 3 2 (nI (an + 1)), r)) ∨
      ((∀ k, k < pd A m → ¬ mtc (pg A m) cl nu k) ∧ ((∃ k, k < pl A m ∧ ltr (pg A m) cl nu k) ∨ pl A m = 60) ∧ rv = some (.inl (-3)) ∧ M' = (K, z, kd, d, r)) ∨
      ((∀ k, k < pl A m → ¬ ltr (pg A m) cl nu k) ∧ pl A m < 60 ∧ ∃ d1 d' r', (∀ q, q ≠ K → d1 q = d q) ∧ cFr N d1 d' ∧ rFc N (hr0 r K) r' ∧ cW N (hu1 kd K (some (.inl 2))) d' r' (pOr N (rcB N d m) m c (o7 cl nu ki a b e f) A) d' r' ∧ cS N d' (pg (pOr N (rcB N d m) m c (o7 cl nu ki a b e f) A)) (pd (pOr N (rcB N d m) m c (o7 cl nu ki a b e f) A)) ∧
        ((∃ k, pd (pOr N (rcB N d m) m c (o7 cl nu ki a b e f) A) m = k + 1 ∧ pl (pOr N (rcB N d m) m c (o7 cl nu ki a b e f) A) m = k + 1 ∧ rv = some (.inl (anS (pg (pOr N (rcB N d m) m c (o7 cl nu ki a b e f) A) m) k)) ∧ M' = (K + 1, z + 7, hu1 kd K (some (.inl 2)), hu (hu (hu d' 4 k 1) 5 k (anS (pg (pOr N (rcB N d m) m c (o7 cl nu ki a b e f) A) m) k)) 3 2 (nI (an + 1)), r')) ∨
         (pd (pOr N (rcB N d m) m c (o7 cl nu ki a b e f) A) m ≠ pl (pOr N (rcB N d m) m c (o7 cl nu ki a b e f) A) m ∧ rv = some (.inl (-2)) ∧ M' = (K + 1, z + 7, hu1 kd K (some (.inl 2)), d', r'))))) = Q
  refine wp_aload rfl rfl ?_
  refine st_getI rfl fX5_42 rfl (by assumption) rfl ?_
  refine wp_if_eq (tgt := 73) rfl (by decide) ?_ ?_
  · intro h
    exact absurd h hup
  · intro _
    refine wp_aload rfl rfl ?_
    refine wp_V0 rfl mX5_order_75 (km) (Nat.le_of_ble_eq_true rfl) (c_isNormal km) ?_
    rintro _ _ ⟨rfl, rfl⟩
    rw [bI, if_pos (show d (8 + 30 * m) 5 = d (8 + 30 * m) 4 by rw [v4, v5, hnm])]
    refine wp_if_eq (tgt := 73) rfl (by decide) ?_ ?_
    · intro hc
      exact absurd hc (by decide)
    · intro _
      refine wp_aload rfl rfl ?_
      refine st_getI rfl fX5_56 rfl (by assumption) (v4) ?_
      refine wp_aload_n rfl rfl ?_
      refine st_getI rfl fX5_7 rfl (by assumption) (hd) ?_
      refine wp_irem rfl (nI_ne0 (by omega) (by omega)) ?_
      rw [nI_mod (by omega) (by omega) vb, hld]
      refine wp_iload_n rfl rfl ?_
      refine wp_icmp_eq (tgt := 76) rfl (by decide) ?_ ?_
      · intro _
        refine wp_aload rfl rfl ?_
        refine wp_iload_n rfl rfl ?_
        refine wp_V1 rfl mX5_order_79 (km) (Nat.le_of_ble_eq_true rfl) (c_greatest mm (w3 m hm) v6 l60) ?_
        rintro _ _ ⟨rfl, rfl⟩
        refine wp_iload_n rfl rfl ?_
        refine wp_icmp_lt (tgt := 102) rfl (by decide) ?_ ?_
        · intro h83
          have hnew := hgr.mp h83
          refine wp_aload rfl rfl ?_
          refine st_getI rfl fX5_90 rfl (by assumption) (v6) ?_
          refine wp_bipush (v := 60) rfl (by decide) ?_
          refine wp_icmp_lt (tgt := 115) rfl (by decide) ?_ ?_
          · intro h109
            have hl60 : pl A m < 60 := by
              rw [i_lt, i_nI (by omega), show (60 : Int32).toInt = 60 by decide] at h109
              omega
            have hN1 : 1 < N := by omega
            obtain ⟨i1, i2, i3, i4, i5, -⟩ := inv_order (c := c) (o := o7 cl nu ki a b e f) (rch := rcB N d m) (W := 899999) hI hm hN1 (fun i h e => h.1 e.symm) (fun i hi => by have := hv i hi; omega) hnm hld hl60 (fun k hk h0 => by
              have h1 : ¬ nu ≤ pg A m k 1 := fun q => hnew k hk ⟨h0, q⟩
              show pg A m k 1 < nu
              rw [i_le] at h1
              rw [i_lt]
              omega)
            have hOR : pOr N (rcB N d m) m c (o7 cl nu ki a b e f) A = pSp N (rcB N d m) m N 0 (pMs (pAp A m (o7 cl nu ki a b e f)) c) 1 := rfl
            generalize hB : pOr N (rcB N d m) m c (o7 cl nu ki a b e f) A = B at hQ i1 i2 i3 i4 i5 hOR
            have kN : hu1 kd K (some (.inl 2)) K = some (.inl 2) := hu1_s
            have kO : ∀ q, q ≠ K → hu1 kd K (some (.inl 2)) q = kd q := fun q hq => hu1_n hq
            have hS1 : Sh N (hu1 kd K (some (.inl 2))) (hr0 r K) := Sh_mono hS (fun q hq => kO q (by omega)) (fun q j hq => if_neg (by omega))
            refine wp_aload rfl rfl ?_
            refine st_new rfl nX5_30 ?_
            refine wp_dup rfl ?_
            refine wp_iload_n rfl rfl ?_
            refine wp_iload_n rfl rfl ?_
            refine wp_iload rfl rfl ?_
            refine wp_iload rfl rfl ?_
            refine wp_iload rfl rfl ?_
            refine wp_iload rfl rfl ?_
            refine wp_iload rfl rfl ?_
            refine wp_I7 rfl mX5_order_32 (kN) (Nat.le_of_ble_eq_true rfl) (c_init2 kN) ?_
            rintro _ _ ⟨rfl, d1, rfl, hd1, hd1K⟩
            have hd1' : ∀ q, q ≠ K → d1 q = d q := fun q hq => by
              rw [hd1 q hq]
              funext j
              exact if_neg hq
            have hW1 : cW N (hu1 kd K (some (.inl 2))) d1 (hr0 r K) A d1 (hr0 r K) := cW_new hW hK hfr hd1'
            have mm1 := (hS1.2.2.2.2.2.2.2.2.2.2.2.2 m hm).2
            obtain ⟨x1, x2, x3, x4, x5, x6, x7, x8⟩ := id hW1
            obtain ⟨y4, y5, y6, y7, -, -, -, -, ylg⟩ := x4 m hm
            refine wp_V1 rfl mX5_order_93 (mm1.1) (Nat.le_of_ble_eq_true rfl) (c_append mm1 y6 hl60 kN) ?_
            rintro _ _ ⟨rfl, rfl⟩
            have hopK : ∀ k, k ≠ pl A m → op (hu (hr0 r K) (8 + 30 * m + 1) (pl A m) (some K)) (8 + 30 * m) k = op (hr0 r K) (8 + 30 * m) k := fun k hk => by
              simp only [op]
              rw [hu_n (fun q => hk q.2)]
            have hopN : op (hu (hr0 r K) (8 + 30 * m + 1) (pl A m) (some K)) (8 + 30 * m) (pl A m) = K := by
              simp only [op]
              rw [hu_s]
              rfl
            have hW2 : cW N (hu1 kd K (some (.inl 2))) d1 (hr0 r K) (pAp A m (o7 cl nu ki a b e f)) (hu d1 (8 + 30 * m) 6 (nI (pl A m + 1))) (hu (hr0 r K) (8 + 30 * m + 1) (pl A m) (some K)) := by
              refine cW_set hS1 hW1 hm ?_ ?_ hu_s ?_ (fun q i hq => hu_n (by omega)) (fun q i hq => hu_n (by omega)) (fun k hk => ?_) (by omega) e60 vb nb (fun k hk i hi => ?_)
              · rw [hu_n (by omega)]; exact y4
              · rw [hu_n (by omega)]; exact y5
              · rw [hu_n (by omega)]; exact y7
              · by_cases ek : k = pl A m
                · subst ek
                  rw [hopN]
                  exact ⟨hu_s, kN⟩
                · rw [hopK k ek, hu_n (fun q => ek q.2)]
                  exact x3 m hm k hk
              · have k8 : hu1 kd K (some (.inl 2)) (8 + 30 * m) = some (.inl 1) := mm1.1
                by_cases ek : k = pl A m
                · subst ek
                  rw [if_pos rfl]
                  show hu d1 (8 + 30 * m) 6 _ (op _ _ _) i = _
                  rw [hopN, hu_n (by omega)]
                  exact hd1K i hi
                · rw [if_neg ek]
                  show hu d1 (8 + 30 * m) 6 _ (op _ _ _) i = _
                  rw [hopK k ek]
                  have ho := (x3 m hm k (by omega)).2
                  rw [hu_n (fun q => by rw [q.1, k8] at ho; cases ho)]
                  exact ylg k (by omega) i hi
            have hW3 := cW_ms hW2 hS1.2.1 hc
            have hbl : pB (pMs (pAp A m (o7 cl nu ki a b e f)) c) + pL (pMs (pAp A m (o7 cl nu ki a b e f)) c) < 1000000 := by
              show pB A + c < 1000000
              omega
            have hd10 : d1 1 0 = nI N := by rw [hd1' 1 (by omega)]; exact hd
            refine wp_aload_n rfl rfl ?_
            refine wp_iload rfl rfl ?_
            refine st_putI rfl fX5_49 rfl rfl ⟨rfl, rfl⟩ (hS1.2.1) ?_
            refine wp_aload_n rfl rfl ?_
            refine wp_iload_n rfl rfl ?_
            refine wp_V1 rfl mX5_order_96 (hS1.2.1) (Nat.le_of_ble_eq_true rfl) (c_spread hS1 hd10 hm _ _ _ hW3 hbl) ?_
            rintro _ _ ⟨rfl, d2, r2, rfl, hW4⟩
            rw [pSp_cong (rch := rcB N d1 m) (rch' := rcB N d m) N 0 (fun i _ hi => by
              unfold rcB
              rw [hd1' (8 + 30 * m) (by omega), hd1' (8 + 30 * i) (by omega), hd1' 2 (by omega)]), ← hOR] at hW4
            have hS2 : Sh N (hu1 kd K (some (.inl 2))) r2 := Sh_r hS1 hW4.2.1
            have hC1 : cS N d1 (pg A) (pd A) := cS_keep hC (fun i hi => by rw [hd1' _ (by omega)]) (fun i hi q h1 h2 => hd1' q (by omega))
            have e32 : ∀ i, i < N → d2 (8 + 30 * i) 3 = d1 (8 + 30 * i) 3 := fun i hi => hW4.1 _ _ (by omega) (fun a _ => by omega)
            have eq2 : ∀ i, i < N → ∀ q, 10 + 30 * i ≤ q → q ≤ 37 + 30 * i → d2 q = d1 q := fun i hi q h1 h2 => cW_row hW4 (by omega) (fun a _ => by omega)
            refine wp_aload_n rfl rfl ?_
            refine wp_V0 rfl mX5_order_66 (hS2.2.1) (Nat.le_of_ble_eq_true rfl) (c_carry hS2 ((hW4.1 _ _ (by omega) (fun a _ => by omega)).trans hd10) (cW_self hW4) (cS_keep (cS_st hC1 i2) e32 eq2) (fun i hi => ⟨(i2 i hi).1, (i1.1 i hi).2.1⟩)) ?_
            rintro _ _ ⟨rfl, d3, rfl, hf3, hC3⟩
            have hW5 := cW_carry hS2 (cW_self hW4) hf3
            have mm2 := (hS2.2.2.2.2.2.2.2.2.2.2.2.2 m hm).2
            obtain ⟨z4, z5, z6, z7, zl, ze, -, -, zlg⟩ := hW5.2.2.2.1 m hm
            obtain ⟨cc3, -, ccan⟩ := hC3 m hm
            have hcfr : cFr N d1 d3 := fun q j h1 h2 => by
              rw [hf3 q j (fun i hi => ⟨fun hc => (h2 i hi).1 (by omega), (h2 i hi).2⟩)]
              exact hW4.1 q j h1 (fun i hi hc => (h2 i hi).1 (by omega))
            have e45 : ∀ q, 3 ≤ q → q ≤ 5 → d3 q = d q := fun q h1 h2 => by
              funext j
              rw [hcfr q j (by omega) (fun i _ => by omega), hd1' q (by omega)]
            have hG3 : gC N d3 B an := gC_st hG i2 (e45 3 (by omega) (by omega)) (e45 4 (by omega) (by omega)) (e45 5 (by omega) (by omega))
            have km2 := mm2.1
            have elen : nI (pl B m) - 1 = nI (pl A m) := by rw [i5, nI_pred]
            refine wp_aload_n rfl rfl ?_
            refine wp_aload rfl rfl ?_
            refine wp_aload rfl rfl ?_
            refine st_getI rfl fX5_90 rfl (km2) (z6) ?_
            refine wp_iconst (v := 1) rfl (by decide) ?_
            refine wp_isub rfl ?_
            rw [elen]
            by_cases hpd : pd B m = pl B m
            · have hno3 : d3 4 (pl A m) = 0 ∨ d3 5 (pl A m) = d3 (8 + 30 * m + 29) (pl A m) := by
                by_cases h4 : d3 4 (pl A m) = 0
                · exact Or.inl h4
                · obtain ⟨i', hi', h1, h2⟩ := hG3.2.2 (pl A m) hl60 h4
                  refine Or.inr ?_
                  rw [ccan (pl A m) (by omega)]
                  exact h2.trans (an_agree i1 hi' hm h1 (by omega))
              refine wp_bipush (v := -2) rfl (by decide) ?_
              refine wp_V3 rfl mX5_order_86 (hS2.2.1) (Nat.le_of_ble_eq_true rfl) (c_giveAnswer hS2.2.1 hS2.2.2.2.2.1 hS2.2.2.2.2.2.2.1 hS2.2.2.2.2.2.2.2.1 hS2.2.2.2.2.2.2.2.2.1 hS2.2.2.2.2.2.2.2.2.2.1 hS2.2.2.2.2.2.2.2.2.2.2.1 mm2 cc3 (by omega) ze hG3.1 hno3) ?_
              rintro _ _ ⟨rfl, rfl⟩
              rw [ccan (pl A m) (by omega)]
              refine wp_ireturn rfl .int rfl rfl ?_
              rw [← hQ]
              exact Or.inr (Or.inr ⟨hnew, hl60, d1, d3, r2, hd1', hcfr, hW4.2.1, hW5, hC3, Or.inl ⟨pl A m, by omega, i5, rfl, rfl⟩⟩)
            · have hle := (i1.1 m hm).2.1
              refine wp_bipush (v := -2) rfl (by decide) ?_
              refine wp_V3 rfl mX5_order_86 (hS2.2.1) (Nat.le_of_ble_eq_true rfl) (c_giveNone mm2.1 cc3 ze (Or.inr (nI_le (by omega) (by omega)))) ?_
              rintro _ _ ⟨rfl, rfl⟩
              refine wp_ireturn rfl .int rfl rfl ?_
              rw [← hQ]
              exact Or.inr (Or.inr ⟨hnew, hl60, d1, d3, r2, hd1', hcfr, hW4.2.1, hW5, hC3, Or.inr ⟨hpd, rfl, rfl⟩⟩)
          · intro h109
            refine wp_bipush (v := -3) rfl (by decide) ?_
            refine wp_ireturn rfl .int rfl rfl ?_
            rw [← hQ]
            refine Or.inr (Or.inl ⟨fun k hk hmt => hnew k (by omega) ⟨hmt.1, by rw [hmt.2, i_le]; omega⟩, Or.inr ?_, rfl, rfl⟩)
            rw [i_lt, i_nI (by omega), show (60 : Int32).toInt = 60 by decide] at h109
            omega
        · intro h83
          have hex : ∃ k, k < pl A m ∧ ltr (pg A m) cl nu k := Classical.byContradiction (fun q => h83 (hgr.mpr (fun k hk hl => q ⟨k, hk, hl⟩)))
          refine wp_aload_n rfl rfl ?_
          refine wp_aload rfl rfl ?_
          refine wp_aload rfl rfl ?_
          refine wp_iload_n rfl rfl ?_
          refine wp_iload_n rfl rfl ?_
          refine wp_V2 rfl mX5_order_82 (km) (Nat.le_of_ble_eq_true rfl) (c_placeOf mm (w3 m hm) v6 l60) ?_
          rintro _ _ ⟨rfl, ⟨k, hk, e1, e2, hfirst, rfl⟩ | ⟨hnone, rfl⟩⟩
          · rw [hlg k hk 0 (by omega)] at e1
            rw [hlg k hk 1 (by omega)] at e2
            have hfirst' : ∀ k', k' < k → ¬ mtc (pg A m) cl nu k' := fun k' hk' q => hfirst k' hk' ⟨(hlg k' (by omega) 0 (by omega)).trans q.1, (hlg k' (by omega) 1 (by omega)).trans q.2⟩
            by_cases hkd : k < pd A m
            · have hno3 : d 4 k = 0 ∨ d 5 k = d (8 + 30 * m + 29) k := by
                by_cases h4 : d 4 k = 0
                · exact Or.inl h4
                · obtain ⟨i', hi', h1, h2⟩ := hG.2.2 k (by omega) h4
                  refine Or.inr ?_
                  rw [can k hkd]
                  exact h2.trans (an_agree hI hi' hm h1 hkd)
              refine wp_bipush (v := -3) rfl (by decide) ?_
              refine wp_V3 rfl mX5_order_86 (k1) (Nat.le_of_ble_eq_true rfl) (c_giveAnswer k1 a3 k3 b0 b1 k4 k5 mm c3 hkd e60 hG.1 hno3) ?_
              rintro _ _ ⟨rfl, rfl⟩
              rw [can k hkd]
              refine wp_ireturn rfl .int rfl rfl ?_
              rw [← hQ]
              exact Or.inl ⟨k, hkd, ⟨e1, e2⟩, hfirst', rfl, rfl⟩
            · refine wp_bipush (v := -3) rfl (by decide) ?_
              refine wp_V3 rfl mX5_order_86 (k1) (Nat.le_of_ble_eq_true rfl) (c_giveNone km c3 e60 (Or.inr (nI_le (by omega) (by omega)))) ?_
              rintro _ _ ⟨rfl, rfl⟩
              refine wp_ireturn rfl .int rfl rfl ?_
              rw [← hQ]
              exact Or.inr (Or.inl ⟨fun k' hk' => hfirst' k' (by omega), Or.inl hex, rfl, rfl⟩)
          · refine wp_bipush (v := -3) rfl (by decide) ?_
            refine wp_V3 rfl mX5_order_86 (k1) (Nat.le_of_ble_eq_true rfl) (c_giveNone km c3 e60 (Or.inl (by decide))) ?_
            rintro _ _ ⟨rfl, rfl⟩
            refine wp_ireturn rfl .int rfl rfl ?_
            rw [← hQ]
            exact Or.inr (Or.inl ⟨fun k' hk' q => hnone k' (by omega) ⟨(hlg k' (by omega) 0 (by omega)).trans q.1, (hlg k' (by omega) 1 (by omega)).trans q.2⟩, Or.inl hex, rfl, rfl⟩)
      · intro h
        exact absurd rfl h
end CORD
