/-! THE REFERENCE: shape at place Y, its numbers, its small methods -/
def rs (kd : Nat → Option hK) (r : Nat → Nat → Option Nat) (Y : Nat) : Prop :=
  kd Y = some (.inl 6) ∧ r Y 2 = some (Y + 1) ∧ r Y 3 = some (Y + 2) ∧ r Y 4 = some (Y + 3) ∧ r Y 5 = some (Y + 4) ∧ r Y 6 = some (Y + 5) ∧ r Y 7 = some (Y + 6) ∧ r Y 8 = some (Y + 7) ∧ r Y 12 = some (Y + 8) ∧ r Y 13 = some (Y + 9) ∧ r Y 15 = some (Y + 10) ∧ r Y 17 = some (Y + 11) ∧ r Y 18 = some (Y + 12) ∧ r Y 19 = some (Y + 13) ∧ r Y 20 = some (Y + 14) ∧ r Y 21 = some (Y + 15) ∧ r Y 22 = some (Y + 16) ∧ r Y 23 = some (Y + 17) ∧ r Y 24 = some (Y + 18) ∧ r Y 25 = some (Y + 19) ∧
  kd (Y + 1) = some (.inr (.inl (.int, 5))) ∧ kd (Y + 2) = some (.inr (.inl (.int, 5))) ∧ kd (Y + 3) = some (.inr (.inl (.int, 5))) ∧ kd (Y + 4) = some (.inr (.inl (.int, 5))) ∧ kd (Y + 5) = some (.inr (.inl (.boolean, 5))) ∧ kd (Y + 6) = some (.inr (.inl (.boolean, 25))) ∧ kd (Y + 7) = some (.inr (.inl (.int, 2100))) ∧ kd (Y + 8) = some (.inr (.inl (.int, 12288))) ∧ kd (Y + 9) = some (.inr (.inl (.int, 4))) ∧ kd (Y + 10) = some (.inr (.inl (.int, 6))) ∧
  kd (Y + 11) = some (.inr (.inl (.int, 20))) ∧ kd (Y + 12) = some (.inr (.inl (.int, 20))) ∧ kd (Y + 13) = some (.inr (.inl (.int, 20))) ∧ kd (Y + 14) = some (.inr (.inl (.int, 20))) ∧ kd (Y + 15) = some (.inr (.inl (.int, 20))) ∧ kd (Y + 16) = some (.inr (.inl (.int, 20))) ∧ kd (Y + 17) = some (.inr (.inl (.int, 20))) ∧ kd (Y + 18) = some (.inr (.inl (.int, 20))) ∧ kd (Y + 19) = some (.inr (.inl (.boolean, 20))) ∧ 0 < Y
theorem ix_m (c a b : Nat) : nI c * nI a + nI b = nI (c * a + b) := by rw [pk_mul, nI_add]
def rcR (d : Nat → Nat → Int32) (Y a b : Nat) : Prop := a ≠ b ∧ d (Y + 5) a = 0 ∧ d (Y + 5) b = 0 ∧ d (Y + 6) (5 * a + b) = 0
/-- the reference's memory holds the numbers A; since d0 nothing else has changed -/
def rW (N Y : Nat) (d0 : Nat → Nat → Int32) (A : PS) (d : Nat → Nat → Int32) : Prop :=
  (∀ q j, ¬ (q = Y ∧ (j = 9 ∨ j = 10)) → q ≠ Y + 1 → q ≠ Y + 2 → q ≠ Y + 3 → q ≠ Y + 4 → q ≠ Y + 7 → d q j = d0 q j) ∧
  (∀ i, i < N → d (Y + 1) i = nI (pv A i) ∧ d (Y + 2) i = nI (pn A i) ∧ d (Y + 3) i = nI (pl A i) ∧ d (Y + 4) i = nI (pd A i) ∧ pl A i ≤ 60 ∧ pd A i ≤ 60 ∧ pv A i < 1000000 ∧ pn A i < 1000000 ∧ ∀ k, k < pl A i → ∀ j, j < 7 → d (Y + 7) (420 * i + 7 * k + j) = pg A i k j) ∧
  d Y 9 = nI (pL A) ∧ d Y 10 = nI (pB A) ∧ pL A ≤ 40 ∧ pB A < 1000000
theorem rW_set {N Y : Nat} {d0 d d' : Nat → Nat → Int32} {A : PS} {j v n l e : Nat} {g : Nat → Nat → Int32} (h : rW N Y d0 A d) (hj : j < N) (h5 : N ≤ 5) (e1 : d' (Y + 1) j = nI v) (e2 : d' (Y + 2) j = nI n) (e3 : d' (Y + 3) j = nI l) (e4 : d' (Y + 4) j = nI e)
    (ed : ∀ q i, ¬ ((q = Y + 1 ∨ q = Y + 2 ∨ q = Y + 3 ∨ q = Y + 4) ∧ i = j) → ¬ (q = Y + 7 ∧ 420 * j ≤ i ∧ i < 420 * j + 420) → d' q i = d q i) (hl : l ≤ 60) (he : e ≤ 60) (hv : v < 1000000) (hn : n < 1000000) (hg : ∀ k, k < l → ∀ i, i < 7 → d' (Y + 7) (420 * j + 7 * k + i) = g k i) : rW N Y d0 (pSet A j v n l e g) d' := by
  obtain ⟨h1, h4, h5', h6, h7, h8⟩ := h
  refine ⟨fun q i a b c f g k => (ed q i (by omega) (by omega)).trans (h1 q i a b c f g k), fun i hi => ?_, (ed Y 9 (by omega) (by omega)).trans h5', (ed Y 10 (by omega) (by omega)).trans h6, h7, h8⟩
  by_cases hij : i = j
  · subst hij
    show d' (Y + 1) i = nI (hu1 (pv A) i v i) ∧ d' (Y + 2) i = nI (hu1 (pn A) i n i) ∧ d' (Y + 3) i = nI (hu1 (pl A) i l i) ∧ d' (Y + 4) i = nI (hu1 (pd A) i e i) ∧ hu1 (pl A) i l i ≤ 60 ∧ hu1 (pd A) i e i ≤ 60 ∧ hu1 (pv A) i v i < 1000000 ∧ hu1 (pn A) i n i < 1000000 ∧ ∀ k, k < hu1 (pl A) i l i → ∀ j, j < 7 → d' (Y + 7) (420 * i + 7 * k + j) = hu1 (pg A) i g i k j
    simp only [hu1_s]
    exact ⟨e1, e2, e3, e4, hl, he, hv, hn, hg⟩
  · show d' (Y + 1) i = nI (hu1 (pv A) j v i) ∧ d' (Y + 2) i = nI (hu1 (pn A) j n i) ∧ d' (Y + 3) i = nI (hu1 (pl A) j l i) ∧ d' (Y + 4) i = nI (hu1 (pd A) j e i) ∧ hu1 (pl A) j l i ≤ 60 ∧ hu1 (pd A) j e i ≤ 60 ∧ hu1 (pv A) j v i < 1000000 ∧ hu1 (pn A) j n i < 1000000 ∧ ∀ k, k < hu1 (pl A) j l i → ∀ x, x < 7 → d' (Y + 7) (420 * i + 7 * k + x) = hu1 (pg A) j g i k x
    simp only [hu1_n hij]
    obtain ⟨a4, a5, a6, a7, b1, b2, b3, b4, b5⟩ := h4 i hi
    exact ⟨(ed _ _ (by omega) (by omega)).trans a4, (ed _ _ (by omega) (by omega)).trans a5, (ed _ _ (by omega) (by omega)).trans a6, (ed _ _ (by omega) (by omega)).trans a7, b1, b2, b3, b4, fun k hk x hx => (ed _ _ (by omega) (by omega)).trans (b5 k hk x hx)⟩
section REF
variable {X : hX} {K z : Nat} {kd : Nat → Option hK} {d d0 : Nat → Nat → Int32} {r : Nat → Nat → Option Nat} {N Y m j : Nat} {A : PS} {x y w : Int32}
theorem r_no (hk : kd Y = some (.inl 6)) (hN : d Y 1 = nI N) (h5 : N ≤ 5) : Cl X kX6_no [.inr (some Y), .inl x] (K, z, kd, d, r) (fun rv M' => M' = (K, z, kd, d, r) ∧ mI N x (fun _ => rv = some (.inl 0)) (rv = some (.inl 1))) := by
  refine (c_no hk hN (by omega)).mono ?_
  rintro rv M' ⟨v, rfl, rfl, ⟨rfl, i, -, hi, rfl⟩ | ⟨rfl, h⟩⟩
  · exact ⟨rfl, Or.inl ⟨i, hi, rfl, rfl⟩⟩
  · exact ⟨rfl, Or.inr ⟨fun i hi => h i (Nat.zero_le _) hi, rfl⟩⟩
theorem r_up {v : Int32} (hS : rs kd r Y) (hN : d Y 1 = nI N) (h5 : N ≤ 5) : Cl X kX6_up [.inr (some Y), .inl x, .inl v] (K, z, kd, d, r) (fun rv M' => mI N x (fun i => rv = some (.inl 1) ∧ M' = (K, z, kd, hu d (Y + 5) i (if v = 0 then 1 else 0), r)) (rv = some (.inl 0) ∧ M' = (K, z, kd, d, r))) := by
  obtain ⟨k0, r2, r3, r4, r5, r6, r7, r8, r12, r13, r15, r17, r18, r19, r20, r21, r22, r23, r24, r25, k1, k2, k3, k4, k5, k6, k7, k8, k9, k10, k11, k12, k13, k14, k15, k16, k17, k18, k19, hY⟩ := id hS
  refine h_ofWp oX6_up (by decide) (Nat.le_of_ble_eq_true rfl) ?_
  refine wp_aload_n rfl rfl ?_
  refine wp_iload_n rfl rfl ?_
  refine wp_V1 rfl mX6_up_75 (k0) (Nat.le_of_ble_eq_true rfl) (r_no k0 hN h5) ?_
  rintro rv M' ⟨rfl, ⟨i, hi, rfl, rfl⟩ | ⟨h, rfl⟩⟩
  · refine wp_if_eq (tgt := 10) rfl (by decide) ?_ ?_
    · intro h5
      refine wp_aload_n rfl rfl ?_
      refine st_getR rfl fX6_22 rfl (by assumption) (by assumption) ?_
      refine wp_iload_n rfl rfl ?_
      refine wp_iload_n rfl rfl ?_
      refine wp_if_ne (tgt := 23) rfl (by decide) ?_ ?_
      · intro h16
        refine wp_iconst (v := 0) rfl (by decide) ?_
        refine st_zast rfl (by assumption) rfl (by omega) (by first | decide | omega) rfl ?_
        refine wp_iconst (v := 1) rfl (by decide) ?_
        refine wp_ireturn rfl .boolean rfl rfl ?_
        first | exact absurd rfl h5 | exact Or.inl ⟨i, hi, rfl, rfl, by rw [if_neg h16]⟩ | exact Or.inl ⟨i, hi, rfl, rfl, by rw [if_pos h16]⟩
      · intro h16
        refine wp_iconst (v := 1) rfl (by decide) ?_
        refine wp_goto (tgt := 24) rfl (by decide) ?_
        refine st_zast rfl (by assumption) rfl (by omega) (by first | decide | omega) rfl ?_
        refine wp_iconst (v := 1) rfl (by decide) ?_
        refine wp_ireturn rfl .boolean rfl rfl ?_
        first | exact absurd rfl h5 | exact Or.inl ⟨i, hi, rfl, rfl, by rw [if_neg h16]⟩ | exact Or.inl ⟨i, hi, rfl, rfl, by rw [if_pos h16]⟩
    · intro h5
      exact absurd rfl h5
  · refine wp_if_eq (tgt := 10) rfl (by decide) ?_ ?_
    · intro h5
      exact absurd h5 (by decide)
    · intro h5
      refine wp_iconst (v := 0) rfl (by decide) ?_
      refine wp_ireturn rfl .boolean rfl rfl ?_
      exact Or.inr ⟨h, rfl, rfl⟩
theorem r_link {v : Int32} (hS : rs kd r Y) (hN : d Y 1 = nI N) (h5 : N ≤ 5) : Cl X kX6_link [.inr (some Y), .inl x, .inl y, .inl v] (K, z, kd, d, r) (fun rv M' => (∃ a b, a < N ∧ b < N ∧ a ≠ b ∧ x = nI a ∧ y = nI b ∧ rv = some (.inl 1) ∧ M' = (K, z, kd, hu (hu d (Y + 6) (5 * a + b) (if v = 0 then 1 else 0)) (Y + 6) (5 * b + a) (if v = 0 then 1 else 0), r)) ∨ ((∀ a b, a < N → b < N → a ≠ b → x = nI a → y = nI b → False) ∧ rv = some (.inl 0) ∧ M' = (K, z, kd, d, r))) := by
  obtain ⟨k0, r2, r3, r4, r5, r6, r7, r8, r12, r13, r15, r17, r18, r19, r20, r21, r22, r23, r24, r25, k1, k2, k3, k4, k5, k6, k7, k8, k9, k10, k11, k12, k13, k14, k15, k16, k17, k18, k19, hY⟩ := id hS
  refine h_ofWp oX6_link (by decide) (Nat.le_of_ble_eq_true rfl) ?_
  refine wp_aload_n rfl rfl ?_
  refine wp_iload_n rfl rfl ?_
  refine wp_V1 rfl mX6_link_75 (k0) (Nat.le_of_ble_eq_true rfl) (r_no k0 hN h5) ?_
  rintro rv M' ⟨rfl, ⟨a, ha, rfl, rfl⟩ | ⟨h, rfl⟩⟩
  · refine wp_if_ne (tgt := 21) rfl (by decide) ?_ ?_
    · intro hc
      exact absurd rfl hc
    · intro _
      refine wp_aload_n rfl rfl ?_
      refine wp_iload_n rfl rfl ?_
      refine wp_V1 rfl mX6_link_75 (k0) (Nat.le_of_ble_eq_true rfl) (r_no k0 hN h5) ?_
      rintro rv M' ⟨rfl, ⟨b, hb, rfl, rfl⟩ | ⟨h, rfl⟩⟩
      · refine wp_if_ne (tgt := 21) rfl (by decide) ?_ ?_
        · intro hc
          exact absurd rfl hc
        · intro _
          refine wp_iload_n rfl rfl ?_
          refine wp_iload_n rfl rfl ?_
          refine wp_icmp_ne (tgt := 23) rfl (by decide) ?_ ?_
          · intro h18
            have hne : a ≠ b := fun e => h18 (by rw [e])
            refine wp_aload_n rfl rfl ?_
            refine st_getR rfl fX6_26 rfl (by assumption) (by assumption) ?_
            refine wp_iconst (v := 5) rfl (by decide) ?_
            refine wp_iload_n rfl rfl ?_
            refine wp_imul rfl ?_
            refine wp_iload_n rfl rfl ?_
            refine wp_iadd rfl ?_
            refine wp_iload_n rfl rfl ?_
            refine wp_if_ne (tgt := 40) rfl (by decide) ?_ ?_
            · intro hv
              refine wp_iconst (v := 0) rfl (by decide) ?_
              refine st_zast rfl (by assumption) (ix_m 5 a b) (by omega) (by first | decide | omega) rfl ?_
              refine wp_aload_n rfl rfl ?_
              refine st_getR rfl fX6_26 rfl (by assumption) (by assumption) ?_
              refine wp_iconst (v := 5) rfl (by decide) ?_
              refine wp_iload_n rfl rfl ?_
              refine wp_imul rfl ?_
              refine wp_iload_n rfl rfl ?_
              refine wp_iadd rfl ?_
              refine wp_iload_n rfl rfl ?_
              refine wp_if_ne (tgt := 59) rfl (by decide) ?_ ?_
              · intro _
                refine wp_iconst (v := 0) rfl (by decide) ?_
                refine st_zast rfl (by assumption) (ix_m 5 b a) (by omega) (by first | decide | omega) rfl ?_
                refine wp_iconst (v := 1) rfl (by decide) ?_
                refine wp_ireturn rfl .boolean rfl rfl ?_
                exact Or.inl ⟨a, b, ha, hb, hne, rfl, rfl, rfl, by rw [if_neg hv]⟩
              · intro hc
                exact absurd hc hv
            · intro hv
              refine wp_iconst (v := 1) rfl (by decide) ?_
              refine wp_goto (tgt := 41) rfl (by decide) ?_
              refine st_zast rfl (by assumption) (ix_m 5 a b) (by omega) (by first | decide | omega) rfl ?_
              refine wp_aload_n rfl rfl ?_
              refine st_getR rfl fX6_26 rfl (by assumption) (by assumption) ?_
              refine wp_iconst (v := 5) rfl (by decide) ?_
              refine wp_iload_n rfl rfl ?_
              refine wp_imul rfl ?_
              refine wp_iload_n rfl rfl ?_
              refine wp_iadd rfl ?_
              refine wp_iload_n rfl rfl ?_
              refine wp_if_ne (tgt := 59) rfl (by decide) ?_ ?_
              · intro hc
                exact absurd hv hc
              · intro _
                refine wp_iconst (v := 1) rfl (by decide) ?_
                refine wp_goto (tgt := 60) rfl (by decide) ?_
                refine st_zast rfl (by assumption) (ix_m 5 b a) (by omega) (by first | decide | omega) rfl ?_
                refine wp_iconst (v := 1) rfl (by decide) ?_
                refine wp_ireturn rfl .boolean rfl rfl ?_
                exact Or.inl ⟨a, b, ha, hb, hne, rfl, rfl, rfl, by rw [if_pos hv]⟩
          · intro h18
            refine wp_iconst (v := 0) rfl (by decide) ?_
            refine wp_ireturn rfl .boolean rfl rfl ?_
            exact Or.inr ⟨fun a' b' ha' hb' hne e1 e2 => hne ((nI_eq (by omega) (by omega)).mp (by rw [← e1, ← e2]; exact h18)), rfl, rfl⟩
      · refine wp_if_ne (tgt := 21) rfl (by decide) ?_ ?_
        · intro _
          refine wp_iconst (v := 0) rfl (by decide) ?_
          refine wp_ireturn rfl .boolean rfl rfl ?_
          exact Or.inr ⟨fun a' b' ha' hb' hne e1 e2 => h b' hb' e2, rfl, rfl⟩
        · intro hc
          exact absurd hc (by decide)
  · refine wp_if_ne (tgt := 21) rfl (by decide) ?_ ?_
    · intro _
      refine wp_iconst (v := 0) rfl (by decide) ?_
      refine wp_ireturn rfl .boolean rfl rfl ?_
      exact Or.inr ⟨fun a' b' ha' hb' hne e1 e2 => h a' ha' e1, rfl, rfl⟩
    · intro hc
      exact absurd hc (by decide)
theorem r_reaches (hS : rs kd r Y) (hm : m < 5) (hj : j < 5) : Cl X kX6_reaches [.inr (some Y), .inl (nI m), .inl (nI j)] (K, z, kd, d, r) (fun rv M' => M' = (K, z, kd, d, r) ∧ ((rcR d Y m j ∧ rv = some (.inl 1)) ∨ (¬ rcR d Y m j ∧ rv = some (.inl 0)))) := by
  obtain ⟨k0, r2, r3, r4, r5, r6, r7, r8, r12, r13, r15, r17, r18, r19, r20, r21, r22, r23, r24, r25, k1, k2, k3, k4, k5, k6, k7, k8, k9, k10, k11, k12, k13, k14, k15, k16, k17, k18, k19, hY⟩ := id hS
  refine h_ofWp oX6_reaches (by decide) (Nat.le_of_ble_eq_true rfl) ?_
  have L1 : nI m = nI j → ¬ rcR d Y m j := fun e q => q.1 ((nI_eq (by omega) (by omega)).mp e)
  have L2 : ¬ d (Y + 5) m = 0 → ¬ rcR d Y m j := fun e q => e q.2.1
  have L3 : ¬ d (Y + 5) j = 0 → ¬ rcR d Y m j := fun e q => e q.2.2.1
  have L4 : ¬ d (Y + 6) (5 * m + j) = 0 → ¬ rcR d Y m j := fun e q => e q.2.2.2
  have L5 : ¬ nI m = nI j → d (Y + 5) m = 0 → d (Y + 5) j = 0 → d (Y + 6) (5 * m + j) = 0 → rcR d Y m j := fun a b c e => ⟨fun q => a (by rw [q]), b, c, e⟩
  refine wp_iload_n rfl rfl ?_
  refine wp_iload_n rfl rfl ?_
  refine wp_icmp_eq (tgt := 40) rfl (by decide) ?_ ?_
  · intro h2
    refine wp_iconst (v := 0) rfl (by decide) ?_
    refine wp_ireturn rfl .boolean rfl rfl ?_
    first | exact ⟨rfl, Or.inl ⟨L5 h2 h11 h20 h33, rfl⟩⟩ | exact ⟨rfl, Or.inr ⟨L1 h2, rfl⟩⟩ | exact ⟨rfl, Or.inr ⟨L4 h33, rfl⟩⟩ | exact ⟨rfl, Or.inr ⟨L3 h20, rfl⟩⟩ | exact ⟨rfl, Or.inr ⟨L2 h11, rfl⟩⟩
  · intro h2
    refine wp_aload_n rfl rfl ?_
    refine st_getR rfl fX6_22 rfl (by assumption) (by assumption) ?_
    refine wp_iload_n rfl rfl ?_
    refine st_zald rfl (by assumption) rfl (by omega) (by first | decide | omega) rfl ?_
    refine wp_if_ne (tgt := 40) rfl (by decide) ?_ ?_
    · intro h11
      refine wp_iconst (v := 0) rfl (by decide) ?_
      refine wp_ireturn rfl .boolean rfl rfl ?_
      first | exact ⟨rfl, Or.inl ⟨L5 h2 h11 h20 h33, rfl⟩⟩ | exact ⟨rfl, Or.inr ⟨L1 h2, rfl⟩⟩ | exact ⟨rfl, Or.inr ⟨L4 h33, rfl⟩⟩ | exact ⟨rfl, Or.inr ⟨L3 h20, rfl⟩⟩ | exact ⟨rfl, Or.inr ⟨L2 h11, rfl⟩⟩
    · intro h11
      refine wp_aload_n rfl rfl ?_
      refine st_getR rfl fX6_22 rfl (by assumption) (by assumption) ?_
      refine wp_iload_n rfl rfl ?_
      refine st_zald rfl (by assumption) rfl (by omega) (by first | decide | omega) rfl ?_
      refine wp_if_ne (tgt := 40) rfl (by decide) ?_ ?_
      · intro h20
        refine wp_iconst (v := 0) rfl (by decide) ?_
        refine wp_ireturn rfl .boolean rfl rfl ?_
        first | exact ⟨rfl, Or.inl ⟨L5 h2 h11 h20 h33, rfl⟩⟩ | exact ⟨rfl, Or.inr ⟨L1 h2, rfl⟩⟩ | exact ⟨rfl, Or.inr ⟨L4 h33, rfl⟩⟩ | exact ⟨rfl, Or.inr ⟨L3 h20, rfl⟩⟩ | exact ⟨rfl, Or.inr ⟨L2 h11, rfl⟩⟩
      · intro h20
        refine wp_aload_n rfl rfl ?_
        refine st_getR rfl fX6_26 rfl (by assumption) (by assumption) ?_
        refine wp_iconst (v := 5) rfl (by decide) ?_
        refine wp_iload_n rfl rfl ?_
        refine wp_imul rfl ?_
        refine wp_iload_n rfl rfl ?_
        refine wp_iadd rfl ?_
        refine st_zald rfl (by assumption) (ix_m 5 m j) (by omega) (by first | decide | omega) rfl ?_
        refine wp_if_ne (tgt := 40) rfl (by decide) ?_ ?_
        · intro h33
          refine wp_iconst (v := 0) rfl (by decide) ?_
          refine wp_ireturn rfl .boolean rfl rfl ?_
          first | exact ⟨rfl, Or.inl ⟨L5 h2 h11 h20 h33, rfl⟩⟩ | exact ⟨rfl, Or.inr ⟨L1 h2, rfl⟩⟩ | exact ⟨rfl, Or.inr ⟨L4 h33, rfl⟩⟩ | exact ⟨rfl, Or.inr ⟨L3 h20, rfl⟩⟩ | exact ⟨rfl, Or.inr ⟨L2 h11, rfl⟩⟩
        · intro h33
          refine wp_iconst (v := 1) rfl (by decide) ?_
          refine wp_goto (tgt := 41) rfl (by decide) ?_
          refine wp_ireturn rfl .boolean rfl rfl ?_
          first | exact ⟨rfl, Or.inl ⟨L5 h2 h11 h20 h33, rfl⟩⟩ | exact ⟨rfl, Or.inr ⟨L1 h2, rfl⟩⟩ | exact ⟨rfl, Or.inr ⟨L4 h33, rfl⟩⟩ | exact ⟨rfl, Or.inr ⟨L3 h20, rfl⟩⟩ | exact ⟨rfl, Or.inr ⟨L2 h11, rfl⟩⟩
theorem r_isNormal (hS : rs kd r Y) (hm : m < 5) : Cl X kX6_isNormal [.inr (some Y), .inl (nI m)] (K, z, kd, d, r) (fun rv M' => M' = (K, z, kd, d, r) ∧ rv = some (.inl (bI (d (Y + 1) m = d (Y + 2) m)))) := by
  obtain ⟨k0, r2, r3, r4, r5, r6, r7, r8, r12, r13, r15, r17, r18, r19, r20, r21, r22, r23, r24, r25, k1, k2, k3, k4, k5, k6, k7, k8, k9, k10, k11, k12, k13, k14, k15, k16, k17, k18, k19, hY⟩ := id hS
  refine h_ofWp oX6_isNormal (by decide) (Nat.le_of_ble_eq_true rfl) ?_
  refine wp_aload_n rfl rfl ?_
  refine st_getR rfl fX6_7 rfl (by assumption) (by assumption) ?_
  refine wp_iload_n rfl rfl ?_
  refine st_iald rfl (by assumption) rfl (by omega) (by first | decide | omega) rfl ?_
  refine wp_aload_n rfl rfl ?_
  refine st_getR rfl fX6_13 rfl (by assumption) (by assumption) ?_
  refine wp_iload_n rfl rfl ?_
  refine st_iald rfl (by assumption) rfl (by omega) (by first | decide | omega) rfl ?_
  refine wp_icmp_ne (tgt := 19) rfl (by decide) ?_ ?_
  · intro h12
    refine wp_iconst (v := 0) rfl (by decide) ?_
    refine wp_ireturn rfl .boolean rfl rfl ?_
    first | (rw [bI, if_neg h12]; exact ⟨rfl, rfl⟩) | (rw [bI, if_pos h12]; exact ⟨rfl, rfl⟩)
  · intro h12
    refine wp_iconst (v := 1) rfl (by decide) ?_
    refine wp_goto (tgt := 20) rfl (by decide) ?_
    refine wp_ireturn rfl .boolean rfl rfl ?_
    first | (rw [bI, if_neg h12]; exact ⟨rfl, rfl⟩) | (rw [bI, if_pos h12]; exact ⟨rfl, rfl⟩)
theorem rW_br (hW : rW N Y d0 A d) (h0 : pL A ≠ 0) (hb : pB A + 1 < 1000000) : rW N Y d0 (pBr A) (hu (hu d Y 9 (nI (pL A - 1))) Y 10 (nI (pB A + 1))) := by
  obtain ⟨h1, h4, h5, h6, h7, h8⟩ := hW
  refine ⟨fun q i a b c e f g => by rw [hu_n (by omega), hu_n (by omega)]; exact h1 q i a b c e f g, fun i hi => ?_, by rw [hu_n (by omega), hu_s]; rfl, by rw [hu_s]; rfl, by show pL A - 1 ≤ 40; omega, hb⟩
  obtain ⟨a4, a5, a6, a7, b1, b2, b3, b4, b5⟩ := h4 i hi
  exact ⟨by rw [hu_n (by omega), hu_n (by omega)]; exact a4, by rw [hu_n (by omega), hu_n (by omega)]; exact a5, by rw [hu_n (by omega), hu_n (by omega)]; exact a6, by rw [hu_n (by omega), hu_n (by omega)]; exact a7, b1, b2, b3, b4, fun k hk x hx => by rw [hu_n (by omega), hu_n (by omega)]; exact b5 k hk x hx⟩
theorem r_bring (hS : rs kd r Y) (hW : rW N Y d0 A d) (hb : pB A + pL A < 1000000) : Cl X kX6_bring [.inr (some Y)] (K, z, kd, d, r) (fun rv M' => (pL A = 0 ∧ rv = some (.inl 0) ∧ M' = (K, z, kd, d, r)) ∨ (¬ pL A = 0 ∧ rv = some (.inl 1) ∧ ∃ d', M' = (K, z, kd, d', r) ∧ rW N Y d0 (pBr A) d')) := by
  have k0 := hS.1
  obtain ⟨h1, h4, h5, h6, h7, h8⟩ := id hW
  refine h_ofWp oX6_bring (by decide) (Nat.le_of_ble_eq_true rfl) ?_
  refine wp_aload_n rfl rfl ?_
  refine st_getI rfl fX6_79 rfl (by assumption) (h5) ?_
  refine wp_if_ne (tgt := 9) rfl (by decide) ?_ ?_
  · intro h
    have hne : ¬ pL A = 0 := fun e => h (by rw [e]; rfl)
    refine wp_aload_n rfl rfl ?_
    refine wp_dup rfl ?_
    refine st_getI rfl fX6_79 rfl (by assumption) (h5) ?_
    refine wp_iconst (v := 1) rfl (by decide) ?_
    refine wp_isub rfl ?_
    refine st_putI rfl fX6_79 rfl rfl ⟨rfl, rfl⟩ (by assumption) ?_
    refine wp_aload_n rfl rfl ?_
    refine wp_dup rfl ?_
    refine st_getI rfl fX6_82 rfl (by assumption) ((hu_n (by omega)).trans h6) ?_
    refine wp_iconst (v := 1) rfl (by decide) ?_
    refine wp_iadd rfl ?_
    refine st_putI rfl fX6_82 rfl rfl ⟨rfl, rfl⟩ (by assumption) ?_
    refine wp_iconst (v := 1) rfl (by decide) ?_
    refine wp_ireturn rfl .boolean rfl rfl ?_
    refine Or.inr ⟨hne, rfl, _, rfl, ?_⟩
    have e1 : nI (pL A) - 1 = nI (pL A - 1) := pk_sub (b := 1) (show 1 ≤ pL A by omega)
    rw [e1, nI_1]
    exact rW_br hW hne (by omega)
  · intro h
    have he : pL A = 0 := (nI_eq (b := 0) (by omega) (by omega)).mp h
    refine wp_iconst (v := 0) rfl (by decide) ?_
    refine wp_ireturn rfl .boolean rfl rfl ?_
    exact Or.inl ⟨he, rfl, rfl⟩
/-- the log of 'from' copied over that of 'to' -/
def rCp (d : Nat → Nat → Int32) (Y a b n : Nat) : Nat → Nat → Int32 := fun q i => if q = Y + 7 ∧ 420 * b ≤ i ∧ i < 420 * b + n then d (Y + 7) (420 * a + (i - 420 * b)) else d q i
theorem rCp_0 (d : Nat → Nat → Int32) (Y a b : Nat) : rCp d Y a b 0 = d := by
  funext q i
  rw [rCp, if_neg (by omega)]
theorem rCp_s (d : Nat → Nat → Int32) (Y a b k : Nat) : rCp d Y a b (k + 1) = hu (rCp d Y a b k) (Y + 7) (420 * b + k) (d (Y + 7) (420 * a + k)) := by
  funext q i
  simp only [rCp, hu]
  by_cases h1 : q = Y + 7 ∧ i = 420 * b + k
  · rw [if_pos (by omega), if_pos h1, show 420 * a + (i - 420 * b) = 420 * a + k by omega]
  · rw [if_neg h1]
    by_cases h2 : q = Y + 7 ∧ 420 * b ≤ i ∧ i < 420 * b + k
    · rw [if_pos (by omega), if_pos h2]
    · rw [if_neg (by omega), if_neg h2]
theorem r_copyLog {a b n : Nat} (hS : rs kd r Y) (ha : a < 5) (hb : b < 5) (hab : a ≠ b) (hn : d (Y + 3) a = nI n) (h60 : n ≤ 60) : Cl X kX6_copyLog [.inr (some Y), .inl (nI a), .inl (nI b)] (K, z, kd, d, r) (fun rv M' => rv = none ∧ M' = (K, z, kd, hu (rCp d Y a b (7 * n)) (Y + 3) b (nI n), r)) := by
  obtain ⟨k0, r2, r3, r4, r5, r6, r7, r8, r12, r13, r15, r17, r18, r19, r20, r21, r22, r23, r24, r25, k1, k2, k3, k4, k5, k6, k7, k8, k9, k10, k11, k12, k13, k14, k15, k16, k17, k18, k19, hY⟩ := id hS
  refine h_ofWp oX6_copyLog (by decide) (Nat.le_of_ble_eq_true rfl) ?_
  have h7 : (7 : Int32) * nI n = nI (7 * n) := pk_mul 7 n
  have loop : ∀ l k, k + l = 7 * n → Wp X kX6_copyLog K z 2 [some (.inr (some Y)), some (.inl (nI a)), some (.inl (nI b)), some (.inl (nI k))] [] (K, z, kd, rCp d Y a b k, r) (fun rv M' => rv = none ∧ M' = (K, z, kd, hu (rCp d Y a b (7 * n)) (Y + 3) b (nI n), r)) := by
    intro l
    induction l with
    | zero =>
      intro k hk
      have : k = 7 * n := by omega
      subst this
      have e3 : rCp d Y a b (7 * n) (Y + 3) a = nI n := by rw [rCp, if_neg (by omega)]; exact hn
      refine wp_iload_n rfl rfl ?_
      refine wp_bipush (v := 7) rfl (by decide) ?_
      refine wp_aload_n rfl rfl ?_
      refine st_getR rfl fX6_16 rfl (by assumption) (by assumption) ?_
      refine wp_iload_n rfl rfl ?_
      refine st_iald rfl (by assumption) rfl (ha) (by first | decide | omega) (e3) ?_
      refine wp_imul rfl ?_
      rw [h7]
      refine wp_icmp_ge (tgt := 45) rfl (by decide) ?_ ?_
      · intro _
        refine wp_aload_n rfl rfl ?_
        refine st_getR rfl fX6_16 rfl (by assumption) (by assumption) ?_
        refine wp_iload_n rfl rfl ?_
        refine wp_aload_n rfl rfl ?_
        refine st_getR rfl fX6_16 rfl (by assumption) (by assumption) ?_
        refine wp_iload_n rfl rfl ?_
        refine st_iald rfl (by assumption) rfl (ha) (by first | decide | omega) (e3) ?_
        refine st_iast rfl (by assumption) (by omega) rfl (hb) (by first | decide | omega) ?_
        refine wp_return rfl rfl (⟨rfl, rfl⟩)
      · intro h
        exact absurd (nI_le (Nat.le_refl _) (by omega)) h
    | succ l ih =>
      intro k hk
      have e3 : rCp d Y a b k (Y + 3) a = nI n := by rw [rCp, if_neg (by omega)]; exact hn
      have e7 : rCp d Y a b k (Y + 7) (420 * a + k) = d (Y + 7) (420 * a + k) := by rw [rCp, if_neg (by omega)]
      refine wp_iload_n rfl rfl ?_
      refine wp_bipush (v := 7) rfl (by decide) ?_
      refine wp_aload_n rfl rfl ?_
      refine st_getR rfl fX6_16 rfl (by assumption) (by assumption) ?_
      refine wp_iload_n rfl rfl ?_
      refine st_iald rfl (by assumption) rfl (ha) (by first | decide | omega) (e3) ?_
      refine wp_imul rfl ?_
      rw [h7]
      refine wp_icmp_ge (tgt := 45) rfl (by decide) ?_ ?_
      · intro h
        exact absurd h (nI_ge (by omega) (by omega))
      · intro _
        refine wp_aload_n rfl rfl ?_
        refine st_getR rfl fX6_29 rfl (by assumption) (by assumption) ?_
        refine wp_sipush (v := 420) rfl (by decide) ?_
        refine wp_iload_n rfl rfl ?_
        refine wp_imul rfl ?_
        refine wp_iload_n rfl rfl ?_
        refine wp_iadd rfl ?_
        refine wp_aload_n rfl rfl ?_
        refine st_getR rfl fX6_29 rfl (by assumption) (by assumption) ?_
        refine wp_sipush (v := 420) rfl (by decide) ?_
        refine wp_iload_n rfl rfl ?_
        refine wp_imul rfl ?_
        refine wp_iload_n rfl rfl ?_
        refine wp_iadd rfl ?_
        refine st_iald rfl (by assumption) (ix_m 420 a k) (by omega) (by first | decide | omega) (e7) ?_
        refine st_iast rfl (by assumption) (by omega) (ix_m 420 b k) (by omega) (by first | decide | omega) ?_
        refine wp_inc rfl rfl (by decide) ?_
        refine wp_goto (tgt := 2) rfl (by decide) ?_
        have := ih (k + 1) (by omega)
        rw [rCp_s] at this
        exact this
  refine wp_iconst (v := 0) rfl (by decide) ?_
  refine wp_istore_n rfl (by decide) ?_
  have := loop (7 * n) 0 (by omega)
  rw [rCp_0] at this
  exact this
theorem rW_cp {b : Nat} {d' : Nat → Nat → Int32} {v n e : Nat} (hW : rW N Y d0 A d) (h5 : N ≤ 5) (hj : j < N) (hb : b < N) (hne : b ≠ j) (e1 : d' (Y + 1) j = nI v) (e2 : d' (Y + 2) j = nI n) (e3 : d' (Y + 3) j = nI (pl A b)) (e4 : d' (Y + 4) j = nI e) (he : e ≤ 60) (hv : v < 1000000) (hn : n < 1000000) (h7 : ∀ i, d' (Y + 7) i = rCp d Y b j (7 * pl A b) (Y + 7) i) (ed : ∀ q i, ¬ ((q = Y + 1 ∨ q = Y + 2 ∨ q = Y + 3 ∨ q = Y + 4) ∧ i = j) → q ≠ Y + 7 → d' q i = d q i) : rW N Y d0 (pSet A j v n (pl A b) e (pg A b)) d' := by
  obtain ⟨a4, a5, a6, a7, b1, b2, b3, b4, b5⟩ := hW.2.1 b hb
  refine rW_set hW hj h5 e1 e2 e3 e4 (fun q i h8 h9 => ?_) b1 he hv hn (fun k hk i hi => ?_)
  · by_cases e : q = Y + 7
    · subst e
      rw [h7, rCp, if_neg (by omega)]
    · exact ed q i h8 e
  · rw [h7, rCp, if_pos (by omega), show 420 * b + (420 * j + 7 * k + i - 420 * j) = 420 * b + 7 * k + i by omega]
    exact b5 k hk i hi
theorem r_takes (hS : rs kd r Y) (hW : rW N Y d0 A d) (h5 : N ≤ 5) (hm : m < N) (hj : j < N) (hne : j ≠ m) : Cl X kX6_takes [.inr (some Y), .inl (nI m), .inl (nI j)] (K, z, kd, d, r) (fun rv M' => (¬ pv A j ≤ pv A m ∧ rv = some (.inl 0) ∧ M' = (K, z, kd, d, r)) ∨ (pv A j ≤ pv A m ∧ rv = some (.inl 1) ∧ ∃ d', M' = (K, z, kd, d', r) ∧ rW N Y d0 (pFo A m j) d')) := by
  obtain ⟨k0, r2, r3, r4, r5, r6, r7, r8, r12, r13, r15, r17, r18, r19, r20, r21, r22, r23, r24, r25, k1, k2, k3, k4, k5, k6, k7, k8, k9, k10, k11, k12, k13, k14, k15, k16, k17, k18, k19, hY⟩ := id hS
  obtain ⟨a4, a5, a6, a7, b1, b2, b3, b4, b5⟩ := hW.2.1 m hm
  obtain ⟨a4', a5', a6', a7', b1', b2', b3', b4', b5'⟩ := hW.2.1 j hj
  refine h_ofWp oX6_takes (by decide) (Nat.le_of_ble_eq_true rfl) ?_
  refine wp_aload_n rfl rfl ?_
  refine st_getR rfl fX6_7 rfl (by assumption) (by assumption) ?_
  refine wp_iload_n rfl rfl ?_
  refine st_iald rfl (by assumption) rfl (by omega) (by first | decide | omega) (a4') ?_
  refine wp_aload_n rfl rfl ?_
  refine st_getR rfl fX6_7 rfl (by assumption) (by assumption) ?_
  refine wp_iload_n rfl rfl ?_
  refine st_iald rfl (by assumption) rfl (by omega) (by first | decide | omega) (a4) ?_
  refine wp_icmp_le (tgt := 17) rfl (by decide) ?_ ?_
  · intro h12
    have hle : pv A j ≤ pv A m := (nI_leI (by omega) (by omega)).mp h12
    refine wp_aload_n rfl rfl ?_
    refine st_getR rfl fX6_7 rfl (by assumption) (by assumption) ?_
    refine wp_iload_n rfl rfl ?_
    refine wp_aload_n rfl rfl ?_
    refine st_getR rfl fX6_7 rfl (by assumption) (by assumption) ?_
    refine wp_iload_n rfl rfl ?_
    refine st_iald rfl (by assumption) rfl (by omega) (by first | decide | omega) (a4) ?_
    refine st_iast rfl (by assumption) (by omega) rfl (by omega) (by first | decide | omega) ?_
    refine wp_aload_n rfl rfl ?_
    refine st_getR rfl fX6_13 rfl (by assumption) (by assumption) ?_
    refine wp_iload_n rfl rfl ?_
    refine wp_aload_n rfl rfl ?_
    refine st_getR rfl fX6_7 rfl (by assumption) (by assumption) ?_
    refine wp_iload_n rfl rfl ?_
    refine st_iald rfl (by assumption) rfl (by omega) (by first | decide | omega) ((hu_n (by omega)).trans a4) ?_
    refine st_iast rfl (by assumption) (by omega) rfl (by omega) (by first | decide | omega) ?_
    refine wp_aload_n rfl rfl ?_
    refine wp_iload_n rfl rfl ?_
    refine wp_iload_n rfl rfl ?_
    refine wp_V2 rfl mX6_takes_85 (k0) (Nat.le_of_ble_eq_true rfl) (r_copyLog hS (by omega) (by omega) (fun e => hne e.symm) (n := pl A m) (by rw [row_n (by omega), row_n (by omega)]; exact a6) b1) ?_
    rintro _ _ ⟨rfl, rfl⟩
    have q4 : ∀ i, hu (rCp (hu (hu d (Y + 1) j (nI (pv A m))) (Y + 2) j (nI (pv A m))) Y m j (7 * pl A m)) (Y + 3) j (nI (pl A m)) (Y + 4) i = d (Y + 4) i := fun i => by
      rw [hu_n (by omega), rCp, if_neg (by omega), hu_n (by omega), hu_n (by omega)]
    have fin : ∀ v, v = nI (if pd A j < pd A m then pd A m else pd A j) → Wp X kX6_takes K z 82 [some (.inr (some Y)), some (.inl (nI m)), some (.inl (nI j))] [.inl v, .inl (nI j), .inr (some (Y + 4))] (K, z, kd, hu (rCp (hu (hu d (Y + 1) j (nI (pv A m))) (Y + 2) j (nI (pv A m))) Y m j (7 * pl A m)) (Y + 3) j (nI (pl A m)), r) (fun rv M' => (¬ pv A j ≤ pv A m ∧ rv = some (.inl 0) ∧ M' = (K, z, kd, d, r)) ∨ (pv A j ≤ pv A m ∧ rv = some (.inl 1) ∧ ∃ d', M' = (K, z, kd, d', r) ∧ rW N Y d0 (pFo A m j) d')) := by
      intro v hv
      refine st_iast rfl (by assumption) (by omega) rfl (by omega) (by first | decide | omega) ?_
      refine wp_iconst (v := 1) rfl (by decide) ?_
      refine wp_ireturn rfl .boolean rfl rfl ?_
      refine Or.inr ⟨hle, rfl, _, rfl, ?_⟩
      refine rW_cp hW h5 hj hm (fun e => hne e.symm) ?_ ?_ ?_ ?_ ?_ b3 b3 ?_ ?_
      · rw [hu_n (by omega), hu_n (by omega), rCp, if_neg (by omega), hu_n (by omega), hu_s]
      · rw [hu_n (by omega), hu_n (by omega), rCp, if_neg (by omega), hu_s]
      · rw [hu_n (by omega), hu_s]
      · rw [hu_s]; exact hv
      · split
        · exact b2
        · exact b2'
      · intro i
        rw [hu_n (by omega), hu_n (by omega)]
        simp only [rCp]
        split
        · rw [hu_n (by omega), hu_n (by omega)]
        · rw [hu_n (by omega), hu_n (by omega)]
      · intro q i h8 h9
        rw [hu_n (by omega), hu_n (by omega), rCp, if_neg (by omega), hu_n (by omega), hu_n (by omega)]
    have F1 : nI (pd A m) ≤ nI (pd A j) → nI (pd A j) = nI (if pd A j < pd A m then pd A m else pd A j) := fun h => by
      rw [if_neg (by have := (nI_leI (by omega) (by omega)).mp h; omega)]
    have F2 : ¬ nI (pd A m) ≤ nI (pd A j) → nI (pd A m) = nI (if pd A j < pd A m then pd A m else pd A j) := fun h => by
      rw [if_pos (by
        rcases Nat.lt_or_ge (pd A j) (pd A m) with q | q
        · exact q
        · exact absurd (nI_le q (by omega)) h)]
    refine wp_aload_n rfl rfl ?_
    refine st_getR rfl fX6_19 rfl (by assumption) (by assumption) ?_
    refine wp_iload_n rfl rfl ?_
    refine wp_aload_n rfl rfl ?_
    refine st_getR rfl fX6_19 rfl (by assumption) (by assumption) ?_
    refine wp_iload_n rfl rfl ?_
    refine st_iald rfl (by assumption) rfl (by omega) (by first | decide | omega) ((q4 m).trans a7) ?_
    refine wp_aload_n rfl rfl ?_
    refine st_getR rfl fX6_19 rfl (by assumption) (by assumption) ?_
    refine wp_iload_n rfl rfl ?_
    refine st_iald rfl (by assumption) rfl (by omega) (by first | decide | omega) ((q4 j).trans a7') ?_
    refine wp_icmp_le (tgt := 76) rfl (by decide) ?_ ?_
    · intro h64
      refine wp_aload_n rfl rfl ?_
      refine st_getR rfl fX6_19 rfl (by assumption) (by assumption) ?_
      refine wp_iload_n rfl rfl ?_
      refine st_iald rfl (by assumption) rfl (by omega) (by first | decide | omega) ((q4 j).trans a7') ?_
      exact fin _ (F1 h64)
    · intro h64
      refine wp_aload_n rfl rfl ?_
      refine st_getR rfl fX6_19 rfl (by assumption) (by assumption) ?_
      refine wp_iload_n rfl rfl ?_
      refine st_iald rfl (by assumption) rfl (by omega) (by first | decide | omega) ((q4 m).trans a7) ?_
      refine wp_goto (tgt := 82) rfl (by decide) ?_
      exact fin _ (F2 h64)
  · intro h12
    refine wp_iconst (v := 0) rfl (by decide) ?_
    refine wp_ireturn rfl .boolean rfl rfl ?_
    exact Or.inl ⟨fun hle => h12 (nI_le hle (by omega)), rfl, rfl⟩
end REF
