/-! THE REFERENCE: what it tells -/
section RREAD
variable {X : hX} {K z : Nat} {kd : Nat → Option hK} {d d0 : Nat → Nat → Int32} {r : Nat → Nat → Option Nat} {N Y m j : Nat} {x y w : Int32}
theorem r_told (hS : rs kd r Y) (hN : d Y 1 = nI N) (h5 : N ≤ 5) : Cl X kX6_told [.inr (some Y), .inl x, .inl y] (K, z, kd, d, r) (fun rv M' => M' = (K, z, kd, d, r) ∧ mI N x (fun i => rv = some (.inl (vTold (d (Y + 1) i) (d (Y + 2) i) (d (Y + 3) i) (d (Y + 4) i) (if d (Y + 5) i = 0 then 1 else 0) y))) (rv = some (.inl (-1)))) := by
  obtain ⟨k0, r2, r3, r4, r5, r6, r7, r8, r12, r13, r15, r17, r18, r19, r20, r21, r22, r23, r24, r25, k1, k2, k3, k4, k5, k6, k7, k8, k9, k10, k11, k12, k13, k14, k15, k16, k17, k18, k19, hY⟩ := id hS
  refine h_ofWp oX6_told (by decide) (Nat.le_of_ble_eq_true rfl) ?_
  refine wp_aload_n rfl rfl ?_
  refine wp_iload_n rfl rfl ?_
  refine wp_V1 rfl mX6_told_75 (k0) (Nat.le_of_ble_eq_true rfl) (r_no k0 hN h5) ?_
  rintro rv M' ⟨rfl, ⟨i, hi, rfl, rfl⟩ | ⟨h, rfl⟩⟩
  · refine wp_if_eq (tgt := 10) rfl (by decide) ?_ ?_
    · intro _
      refine wp_iload_n rfl rfl ?_
      rcases h_sw y 5 (by decide) with ⟨j, hj, rfl⟩ | hout
      · rcases (show j = 0 ∨ j = 1 ∨ j = 2 ∨ j = 3 ∨ j = 4 by omega) with rfl | rfl | rfl | rfl | rfl
        · refine wp_tabIn (off := 33) (tgt := 44) rfl (by decide) (by decide) rfl (by decide) ?_
          refine wp_aload_n rfl rfl ?_
          refine st_getR rfl fX6_7 rfl (by assumption) (by assumption) ?_
          refine wp_iload_n rfl rfl ?_
          refine st_iald rfl (by assumption) rfl (by omega) (by first | decide | omega) rfl ?_
          refine wp_ireturn rfl .int rfl rfl ?_
          exact ⟨rfl, Or.inl ⟨i, hi, rfl, rfl⟩⟩
        · refine wp_tabIn (off := 40) (tgt := 51) rfl (by decide) (by decide) rfl (by decide) ?_
          refine wp_aload_n rfl rfl ?_
          refine st_getR rfl fX6_13 rfl (by assumption) (by assumption) ?_
          refine wp_iload_n rfl rfl ?_
          refine st_iald rfl (by assumption) rfl (by omega) (by first | decide | omega) rfl ?_
          refine wp_ireturn rfl .int rfl rfl ?_
          exact ⟨rfl, Or.inl ⟨i, hi, rfl, rfl⟩⟩
        · refine wp_tabIn (off := 47) (tgt := 58) rfl (by decide) (by decide) rfl (by decide) ?_
          refine wp_aload_n rfl rfl ?_
          refine st_getR rfl fX6_16 rfl (by assumption) (by assumption) ?_
          refine wp_iload_n rfl rfl ?_
          refine st_iald rfl (by assumption) rfl (by omega) (by first | decide | omega) rfl ?_
          refine wp_ireturn rfl .int rfl rfl ?_
          exact ⟨rfl, Or.inl ⟨i, hi, rfl, rfl⟩⟩
        · refine wp_tabIn (off := 54) (tgt := 65) rfl (by decide) (by decide) rfl (by decide) ?_
          refine wp_aload_n rfl rfl ?_
          refine st_getR rfl fX6_19 rfl (by assumption) (by assumption) ?_
          refine wp_iload_n rfl rfl ?_
          refine st_iald rfl (by assumption) rfl (by omega) (by first | decide | omega) rfl ?_
          refine wp_ireturn rfl .int rfl rfl ?_
          exact ⟨rfl, Or.inl ⟨i, hi, rfl, rfl⟩⟩
        · refine wp_tabIn (off := 61) (tgt := 72) rfl (by decide) (by decide) rfl (by decide) ?_
          refine wp_aload_n rfl rfl ?_
          refine st_getR rfl fX6_22 rfl (by assumption) (by assumption) ?_
          refine wp_iload_n rfl rfl ?_
          refine st_zald rfl (by assumption) rfl (by omega) (by first | decide | omega) rfl ?_
          refine wp_if_eq (tgt := 85) rfl (by decide) ?_ ?_
          · intro h78
            refine wp_iconst (v := 1) rfl (by decide) ?_
            refine wp_ireturn rfl .int rfl rfl ?_
            refine ⟨rfl, Or.inl ⟨i, hi, rfl, ?_⟩⟩
            dsimp only
            rw [show vTold (d (Y + 1) i) (d (Y + 2) i) (d (Y + 3) i) (d (Y + 4) i) (if d (Y + 5) i = 0 then 1 else 0) (nI 4) = (if (if d (Y + 5) i = 0 then (1 : Int32) else 0) = 0 then 0 else 1) from rfl]
            first | rw [if_pos h78, if_neg (by decide)] | rw [if_neg h78, if_pos rfl]
          · intro h78
            refine wp_iconst (v := 0) rfl (by decide) ?_
            refine wp_goto (tgt := 86) rfl (by decide) ?_
            refine wp_ireturn rfl .int rfl rfl ?_
            refine ⟨rfl, Or.inl ⟨i, hi, rfl, ?_⟩⟩
            dsimp only
            rw [show vTold (d (Y + 1) i) (d (Y + 2) i) (d (Y + 3) i) (d (Y + 4) i) (if d (Y + 5) i = 0 then 1 else 0) (nI 4) = (if (if d (Y + 5) i = 0 then (1 : Int32) else 0) = 0 then 0 else 1) from rfl]
            first | rw [if_pos h78, if_neg (by decide)] | rw [if_neg h78, if_pos rfl]
      · refine wp_tabOut (tgt := 87) rfl hout (by decide) ?_
        refine wp_iconst (v := -1) rfl (by decide) ?_
        refine wp_ireturn rfl .int rfl rfl ?_
        refine ⟨rfl, Or.inl ⟨i, hi, rfl, ?_⟩⟩
        dsimp only
        rw [vTold, if_neg (out_ne hout (by omega) (by omega)), if_neg (out_ne hout (by omega) (by omega)), if_neg (out_ne hout (by omega) (by omega)), if_neg (out_ne hout (by omega) (by omega)), if_neg (out_ne hout (by omega) (by omega))]
    · intro hc
      exact absurd rfl hc
  · refine wp_if_eq (tgt := 10) rfl (by decide) ?_ ?_
    · intro hc
      exact absurd hc (by decide)
    · intro _
      refine wp_iconst (v := -1) rfl (by decide) ?_
      refine wp_ireturn rfl .int rfl rfl ?_
      exact ⟨rfl, Or.inr ⟨h, rfl⟩⟩
theorem in_r0 {x : Int32} {n : Nat} (hn : n < 1000) : (0 ≤ x ∧ x ≤ nI n - 1) ↔ inR x 0 n := by
  have e1 : (nI n - 1).toInt = (n : Int) - 1 := by
    have := i_sub (a := nI n) (b := 1) (by rw [i_nI (by omega), show (1 : Int32).toInt = 1 by decide]; omega) (by rw [i_nI (by omega), show (1 : Int32).toInt = 1 by decide]; omega)
    rw [this, i_nI (by omega), show (1 : Int32).toInt = 1 by decide]
  rw [i_le, i_le, e1, show (0 : Int32).toInt = 0 by decide]
  constructor
  · rintro ⟨h1, h2⟩
    have h0 : ¬ x < 0 := by
      rw [i_lt, show (0 : Int32).toInt = 0 by decide]
      omega
    obtain ⟨j, hj, rfl⟩ := nI_of h0
    rw [i_nI (by omega)] at h2
    exact ⟨j, Nat.zero_le _, by omega, rfl⟩
  · rintro ⟨j, -, h2, rfl⟩
    rw [i_nI (by omega)]; omega
theorem nin_m {x : Int32} {n : Nat} (h : ¬ inR x 0 n) : ∀ i, i < n → x ≠ nI i := fun i hi e => h ⟨i, Nat.zero_le _, hi, e⟩
theorem v7_out {f : Nat → Int32} {x : Int32} (h : ¬ inR x 0 7) : v7 f x = -1 := by
  have n := nin_m h
  rw [v7, if_neg (n 0 (by omega)), if_neg (n 1 (by omega)), if_neg (n 2 (by omega)), if_neg (n 3 (by omega)), if_neg (n 4 (by omega)), if_neg (n 5 (by omega)), if_neg (n 6 (by omega))]
theorem v7_in {f : Nat → Int32} {j : Nat} (h : j < 7) : v7 f (nI j) = f j := by
  rcases (show j = 0 ∨ j = 1 ∨ j = 2 ∨ j = 3 ∨ j = 4 ∨ j = 5 ∨ j = 6 by omega) with rfl | rfl | rfl | rfl | rfl | rfl | rfl <;> rfl
theorem r_log (hS : rs kd r Y) (hN : d Y 1 = nI N) (h5 : N ≤ 5) {ln : Nat → Nat} (hl : ∀ i, i < N → d (Y + 3) i = nI (ln i) ∧ ln i ≤ 60) : Cl X kX6_log [.inr (some Y), .inl x, .inl y, .inl w] (K, z, kd, d, r) (fun rv M' => M' = (K, z, kd, d, r) ∧ mI N x (fun i => mI (ln i) y (fun k => rv = some (.inl (v7 (fun j => d (Y + 7) (420 * i + 7 * k + j)) w))) (rv = some (.inl (-1)))) (rv = some (.inl (-1)))) := by
  obtain ⟨k0, r2, r3, r4, r5, r6, r7, r8, r12, r13, r15, r17, r18, r19, r20, r21, r22, r23, r24, r25, k1, k2, k3, k4, k5, k6, k7, k8, k9, k10, k11, k12, k13, k14, k15, k16, k17, k18, k19, hY⟩ := id hS
  refine h_ofWp oX6_log (by decide) (Nat.le_of_ble_eq_true rfl) ?_
  refine wp_aload_n rfl rfl ?_
  refine wp_iload_n rfl rfl ?_
  refine wp_V1 rfl mX6_log_75 (k0) (Nat.le_of_ble_eq_true rfl) (r_no k0 hN h5) ?_
  rintro rv M' ⟨rfl, ⟨i, hi, rfl, rfl⟩ | ⟨h, rfl⟩⟩
  · obtain ⟨hli, h60⟩ := hl i hi
    refine wp_if_ne (tgt := 34) rfl (by decide) ?_ ?_
    · intro hc
      exact absurd rfl hc
    · intro _
      refine wp_iload_n rfl rfl ?_
      refine wp_iconst (v := 0) rfl (by decide) ?_
      refine wp_aload_n rfl rfl ?_
      refine st_getR rfl fX6_16 rfl (by assumption) (by assumption) ?_
      refine wp_iload_n rfl rfl ?_
      refine st_iald rfl (by assumption) rfl (by omega) (by first | decide | omega) (hli) ?_
      refine wp_iconst (v := 1) rfl (by decide) ?_
      refine wp_isub rfl ?_
      refine wp_S3 rfl mX6_log_89 (Nat.le_of_ble_eq_true rfl) (r_in (in_r0 (n := ln i) (by omega))) ?_
      rintro _ _ ⟨rfl, ⟨⟨k, -, hk, rfl⟩, rfl⟩ | ⟨hb, rfl⟩⟩
      · refine wp_if_eq (tgt := 34) rfl (by decide) ?_ ?_
        · intro hc
          exact absurd hc (by decide)
        · intro _
          refine wp_iload_n rfl rfl ?_
          refine wp_iconst (v := 0) rfl (by decide) ?_
          refine wp_bipush (v := 6) rfl (by decide) ?_
          refine wp_S3 rfl mX6_log_89 (Nat.le_of_ble_eq_true rfl) (r_in (in_rg (a := 0) (b := 6) (by omega) (by omega))) ?_
          rintro _ _ ⟨rfl, ⟨⟨q, -, hq, rfl⟩, rfl⟩ | ⟨hb, rfl⟩⟩
          · have hix : (420 : Int32) * nI i + 7 * nI k + nI q = nI (420 * i + 7 * k + q) := by
              have a1 : (420 : Int32) * nI i = nI (420 * i) := pk_mul 420 i
              have a2 : (7 : Int32) * nI k = nI (7 * k) := pk_mul 7 k
              rw [a1, a2, nI_add, nI_add]
            refine wp_if_ne (tgt := 36) rfl (by decide) ?_ ?_
            · intro _
              refine wp_aload_n rfl rfl ?_
              refine st_getR rfl fX6_29 rfl (by assumption) (by assumption) ?_
              refine wp_sipush (v := 420) rfl (by decide) ?_
              refine wp_iload_n rfl rfl ?_
              refine wp_imul rfl ?_
              refine wp_bipush (v := 7) rfl (by decide) ?_
              refine wp_iload_n rfl rfl ?_
              refine wp_imul rfl ?_
              refine wp_iadd rfl ?_
              refine wp_iload_n rfl rfl ?_
              refine wp_iadd rfl ?_
              rw [hix]
              refine st_iald rfl (by assumption) rfl (by omega) (by first | decide | omega) rfl ?_
              refine wp_ireturn rfl .int rfl rfl ?_
              refine ⟨rfl, Or.inl ⟨i, hi, rfl, Or.inl ⟨k, hk, rfl, ?_⟩⟩⟩
              dsimp only
              rw [v7_in hq]
            · intro hc
              exact absurd hc (by decide)
          · refine wp_if_ne (tgt := 36) rfl (by decide) ?_ ?_
            · intro hc
              exact absurd rfl hc
            · intro _
              refine wp_iconst (v := -1) rfl (by decide) ?_
              refine wp_ireturn rfl .int rfl rfl ?_
              refine ⟨rfl, Or.inl ⟨i, hi, rfl, Or.inl ⟨k, hk, rfl, ?_⟩⟩⟩
              dsimp only
              rw [v7_out hb]
      · refine wp_if_eq (tgt := 34) rfl (by decide) ?_ ?_
        · intro _
          refine wp_iconst (v := -1) rfl (by decide) ?_
          refine wp_ireturn rfl .int rfl rfl ?_
          exact ⟨rfl, Or.inl ⟨i, hi, rfl, Or.inr ⟨nin_m hb, rfl⟩⟩⟩
        · intro hc
          exact absurd rfl hc
  · refine wp_if_ne (tgt := 34) rfl (by decide) ?_ ?_
    · intro _
      refine wp_iconst (v := -1) rfl (by decide) ?_
      refine wp_ireturn rfl .int rfl rfl ?_
      exact ⟨rfl, Or.inr ⟨h, rfl⟩⟩
    · intro hc
      exact absurd hc (by decide)
theorem r_task (hS : rs kd r Y) (hN : d Y 1 = nI N) (h5 : N ≤ 5) {dn : Nat → Nat} {G : Nat → Nat → Nat → Int32} (hl : ∀ i, i < N → d (Y + 4) i = nI (dn i) ∧ dn i ≤ 60 ∧ ∀ k, k < dn i → ∀ j, j < 7 → d (Y + 7) (420 * i + 7 * k + j) = G i k j) : Cl X kX6_task [.inr (some Y), .inl x, .inl y, .inl w] (K, z, kd, d, r) (fun rv M' => ∃ d', M' = (K, z, kd, d', r) ∧ rFr Y d d' ∧ mI N x (fun i => mI (rnS (G i) (dn i)).2.1 y (fun k => rv = some (.inl (vTask ((rnS (G i) (dn i)).2.2.2.2.1 k) w))) (rv = some (.inl (-1)))) (rv = some (.inl (-1)))) := by
  obtain ⟨k0, r2, r3, r4, r5, r6, r7, r8, r12, r13, r15, r17, r18, r19, r20, r21, r22, r23, r24, r25, k1, k2, k3, k4, k5, k6, k7, k8, k9, k10, k11, k12, k13, k14, k15, k16, k17, k18, k19, hY⟩ := id hS
  refine h_ofWp oX6_task (by decide) (Nat.le_of_ble_eq_true rfl) ?_
  refine wp_aload_n rfl rfl ?_
  refine wp_iload_n rfl rfl ?_
  refine wp_V1 rfl mX6_task_75 (k0) (Nat.le_of_ble_eq_true rfl) (r_no k0 hN h5) ?_
  rintro rv M' ⟨rfl, ⟨i, hi, rfl, rfl⟩ | ⟨h, rfl⟩⟩
  · obtain ⟨hli, h60, hG⟩ := hl i hi
    refine wp_if_eq (tgt := 10) rfl (by decide) ?_ ?_
    · intro _
      refine wp_aload_n rfl rfl ?_
      refine wp_iload_n rfl rfl ?_
      refine wp_aload_n rfl rfl ?_
      refine st_getR rfl fX6_19 rfl (by assumption) (by assumption) ?_
      refine wp_iload_n rfl rfl ?_
      refine st_iald rfl (by assumption) rfl (by omega) (by first | decide | omega) (hli) ?_
      refine wp_V2 rfl mX6_task_107 (k0) (Nat.le_of_ble_eq_true rfl) (r_replay hS (by omega) h60 hG) ?_
      rintro _ _ ⟨rfl, d1, rfl, hf1, hR1⟩
      have htc := (rnS_ok (G i) (dn i)).2.1
      have hR1 : rS d1 Y (rnS (G i) (dn i)) := hR1
      refine wp_istore rfl (by decide) ?_
      refine wp_aload_n rfl rfl ?_
      refine wp_iload_n rfl rfl ?_
      refine wp_V1 rfl mX6_task_136 (k0) (Nat.le_of_ble_eq_true rfl) (r_noT k0 hR1.2.1 (by omega)) ?_
      rintro _ _ ⟨rfl, ⟨ht, rfl⟩ | ⟨ht, rfl⟩⟩
      · obtain ⟨t, -, ht, rfl⟩ := ht
        obtain ⟨t0, t1, t2, t3, t4, t5, t7, t6⟩ := hR1.2.2.2.2 t ht
        refine wp_if_eq (tgt := 33) rfl (by decide) ?_ ?_
        · intro _
          refine wp_iload_n rfl rfl ?_
          rcases h_sw w 4 (by decide) with ⟨j, hj, rfl⟩ | hout
          · rcases (show j = 0 ∨ j = 1 ∨ j = 2 ∨ j = 3 by omega) with rfl | rfl | rfl | rfl
            · refine wp_tabIn (off := 30) (tgt := 64) rfl (by decide) (by decide) rfl (by decide) ?_
              refine wp_aload_n rfl rfl ?_
              refine st_getR rfl fX6_53 rfl (by assumption) (by assumption) ?_
              refine wp_iload_n rfl rfl ?_
              refine st_iald rfl (by assumption) rfl ((by omega : t < 20)) (by first | decide | omega) (t4) ?_
              refine wp_ireturn rfl .int rfl rfl ?_
              exact ⟨d1, rfl, hf1, Or.inl ⟨i, hi, rfl, Or.inl ⟨t, ht, rfl, rfl⟩⟩⟩
            · refine wp_tabIn (off := 37) (tgt := 71) rfl (by decide) (by decide) rfl (by decide) ?_
              refine wp_aload_n rfl rfl ?_
              refine st_getR rfl fX6_56 rfl (by assumption) (by assumption) ?_
              refine wp_iload_n rfl rfl ?_
              refine st_iald rfl (by assumption) rfl ((by omega : t < 20)) (by first | decide | omega) (t5) ?_
              refine wp_ireturn rfl .int rfl rfl ?_
              exact ⟨d1, rfl, hf1, Or.inl ⟨i, hi, rfl, Or.inl ⟨t, ht, rfl, rfl⟩⟩⟩
            · refine wp_tabIn (off := 44) (tgt := 78) rfl (by decide) (by decide) rfl (by decide) ?_
              refine wp_aload_n rfl rfl ?_
              refine st_getR rfl fX6_53 rfl (by assumption) (by assumption) ?_
              refine wp_iload_n rfl rfl ?_
              refine st_iald rfl (by assumption) rfl ((by omega : t < 20)) (by first | decide | omega) (t4) ?_
              refine wp_iconst (v := 1) rfl (by decide) ?_
              refine wp_icmp_ne (tgt := 97) rfl (by decide) ?_ ?_
              · intro h85
                refine wp_iconst (v := -1) rfl (by decide) ?_
                refine wp_ireturn rfl .int rfl rfl ?_
                refine ⟨d1, rfl, hf1, Or.inl ⟨i, hi, rfl, Or.inl ⟨t, ht, rfl, ?_⟩⟩⟩
                dsimp only
                rw [show vTask ((rnS (G i) (dn i)).2.2.2.2.1 t) (nI 2) = (if (rnS (G i) (dn i)).2.2.2.2.1 t 4 = 1 then (rnS (G i) (dn i)).2.2.2.2.1 t 6 else -1) from rfl]
                first | rw [if_neg h85] | rw [if_pos h85]
              · intro h85
                refine wp_aload_n rfl rfl ?_
                refine st_getR rfl fX6_59 rfl (by assumption) (by assumption) ?_
                refine wp_iload_n rfl rfl ?_
                refine st_iald rfl (by assumption) rfl ((by omega : t < 20)) (by first | decide | omega) (t6 h85) ?_
                refine wp_goto (tgt := 98) rfl (by decide) ?_
                refine wp_ireturn rfl .int rfl rfl ?_
                refine ⟨d1, rfl, hf1, Or.inl ⟨i, hi, rfl, Or.inl ⟨t, ht, rfl, ?_⟩⟩⟩
                dsimp only
                rw [show vTask ((rnS (G i) (dn i)).2.2.2.2.1 t) (nI 2) = (if (rnS (G i) (dn i)).2.2.2.2.1 t 4 = 1 then (rnS (G i) (dn i)).2.2.2.2.1 t 6 else -1) from rfl]
                first | rw [if_neg h85] | rw [if_pos h85]
            · refine wp_tabIn (off := 65) (tgt := 99) rfl (by decide) (by decide) rfl (by decide) ?_
              refine wp_aload_n rfl rfl ?_
              refine st_getR rfl fX6_53 rfl (by assumption) (by assumption) ?_
              refine wp_iload_n rfl rfl ?_
              refine st_iald rfl (by assumption) rfl ((by omega : t < 20)) (by first | decide | omega) (t4) ?_
              refine wp_iconst (v := 2) rfl (by decide) ?_
              refine wp_icmp_ne (tgt := 118) rfl (by decide) ?_ ?_
              · intro h106
                refine wp_iconst (v := 0) rfl (by decide) ?_
                refine wp_ireturn rfl .int rfl rfl ?_
                refine ⟨d1, rfl, hf1, Or.inl ⟨i, hi, rfl, Or.inl ⟨t, ht, rfl, ?_⟩⟩⟩
                dsimp only
                rw [show vTask ((rnS (G i) (dn i)).2.2.2.2.1 t) (nI 3) = (if (rnS (G i) (dn i)).2.2.2.2.1 t 4 = 2 then (rnS (G i) (dn i)).2.2.2.2.1 t 7 else 0) from rfl]
                first | rw [if_neg h106] | rw [if_pos h106]
              · intro h106
                refine wp_aload_n rfl rfl ?_
                refine st_getR rfl fX6_62 rfl (by assumption) (by assumption) ?_
                refine wp_iload_n rfl rfl ?_
                refine st_iald rfl (by assumption) rfl ((by omega : t < 20)) (by first | decide | omega) (t7) ?_
                refine wp_goto (tgt := 119) rfl (by decide) ?_
                refine wp_ireturn rfl .int rfl rfl ?_
                refine ⟨d1, rfl, hf1, Or.inl ⟨i, hi, rfl, Or.inl ⟨t, ht, rfl, ?_⟩⟩⟩
                dsimp only
                rw [show vTask ((rnS (G i) (dn i)).2.2.2.2.1 t) (nI 3) = (if (rnS (G i) (dn i)).2.2.2.2.1 t 4 = 2 then (rnS (G i) (dn i)).2.2.2.2.1 t 7 else 0) from rfl]
                first | rw [if_neg h106] | rw [if_pos h106]
          · refine wp_tabOut (tgt := 120) rfl hout (by decide) ?_
            refine wp_iconst (v := -1) rfl (by decide) ?_
            refine wp_ireturn rfl .int rfl rfl ?_
            refine ⟨d1, rfl, hf1, Or.inl ⟨i, hi, rfl, Or.inl ⟨t, ht, rfl, ?_⟩⟩⟩
            dsimp only
            rw [vTask, if_neg (out_ne hout (by omega) (by omega)), if_neg (out_ne hout (by omega) (by omega)), if_neg (out_ne hout (by omega) (by omega)), if_neg (out_ne hout (by omega) (by omega))]
        · intro hc
          exact absurd rfl hc
      · refine wp_if_eq (tgt := 33) rfl (by decide) ?_ ?_
        · intro hc
          exact absurd hc (by decide)
        · intro _
          refine wp_iconst (v := -1) rfl (by decide) ?_
          refine wp_ireturn rfl .int rfl rfl ?_
          exact ⟨d1, rfl, hf1, Or.inl ⟨i, hi, rfl, Or.inr ⟨nin_m ht, rfl⟩⟩⟩
    · intro hc
      exact absurd rfl hc
  · refine wp_if_eq (tgt := 10) rfl (by decide) ?_ ?_
    · intro hc
      exact absurd hc (by decide)
    · intro _
      refine wp_iconst (v := -1) rfl (by decide) ?_
      refine wp_ireturn rfl .int rfl rfl ?_
      exact ⟨d, rfl, rFr_refl _ _, Or.inr ⟨h, rfl⟩⟩
theorem r_worker (hS : rs kd r Y) (hN : d Y 1 = nI N) (h5 : N ≤ 5) {dn : Nat → Nat} {G : Nat → Nat → Nat → Int32} (hl : ∀ i, i < N → d (Y + 4) i = nI (dn i) ∧ dn i ≤ 60 ∧ ∀ k, k < dn i → ∀ j, j < 7 → d (Y + 7) (420 * i + 7 * k + j) = G i k j) : Cl X kX6_worker [.inr (some Y), .inl x, .inl y, .inl w] (K, z, kd, d, r) (fun rv M' => ∃ d', M' = (K, z, kd, d', r) ∧ rFr Y d d' ∧ mI N x (fun i => mI (rnS (G i) (dn i)).1 y (fun k => rv = some (.inl (if w = nI 0 then (rnS (G i) (dn i)).2.2.2.1 k else if w = nI 1 then sFree ((rnS (G i) (dn i)).2.2.2.1 k) (rnS (G i) (dn i)).2.2.2.2.1 (nI k) (rnS (G i) (dn i)).2.1 else -1))) (rv = some (.inl (-1)))) (rv = some (.inl (-1)))) := by
  obtain ⟨k0, r2, r3, r4, r5, r6, r7, r8, r12, r13, r15, r17, r18, r19, r20, r21, r22, r23, r24, r25, k1, k2, k3, k4, k5, k6, k7, k8, k9, k10, k11, k12, k13, k14, k15, k16, k17, k18, k19, hY⟩ := id hS
  refine h_ofWp oX6_worker (by decide) (Nat.le_of_ble_eq_true rfl) ?_
  refine wp_aload_n rfl rfl ?_
  refine wp_iload_n rfl rfl ?_
  refine wp_V1 rfl mX6_worker_75 (k0) (Nat.le_of_ble_eq_true rfl) (r_no k0 hN h5) ?_
  rintro rv M' ⟨rfl, ⟨i, hi, rfl, rfl⟩ | ⟨h, rfl⟩⟩
  · obtain ⟨hli, h60, hG⟩ := hl i hi
    refine wp_if_eq (tgt := 10) rfl (by decide) ?_ ?_
    · intro _
      refine wp_aload_n rfl rfl ?_
      refine wp_iload_n rfl rfl ?_
      refine wp_aload_n rfl rfl ?_
      refine st_getR rfl fX6_19 rfl (by assumption) (by assumption) ?_
      refine wp_iload_n rfl rfl ?_
      refine st_iald rfl (by assumption) rfl (by omega) (by first | decide | omega) (hli) ?_
      refine wp_V2 rfl mX6_worker_107 (k0) (Nat.le_of_ble_eq_true rfl) (r_replay hS (by omega) h60 hG) ?_
      rintro _ _ ⟨rfl, d1, rfl, hf1, hR1⟩
      have hwf := rnS_wf (G i) (dn i)
      have hR1 : rS d1 Y (rnS (G i) (dn i)) := hR1
      have hwc := hwf.1.1
      refine wp_istore rfl (by decide) ?_
      refine wp_iload_n rfl rfl ?_
      refine wp_iconst (v := 0) rfl (by decide) ?_
      refine wp_aload_n rfl rfl ?_
      refine st_getI rfl fX6_118 rfl (by assumption) (hR1.1) ?_
      refine wp_iconst (v := 1) rfl (by decide) ?_
      refine wp_isub rfl ?_
      refine wp_S3 rfl mX6_worker_89 (Nat.le_of_ble_eq_true rfl) (r_in (in_r0 (n := (rnS (G i) (dn i)).1) (by omega))) ?_
      rintro _ _ ⟨rfl, ⟨⟨k, -, hk, rfl⟩, rfl⟩ | ⟨hb, rfl⟩⟩
      · refine wp_if_eq (tgt := 46) rfl (by decide) ?_ ?_
        · intro hc
          exact absurd hc (by decide)
        · intro _
          refine wp_iload_n rfl rfl ?_
          refine wp_iconst (v := 0) rfl (by decide) ?_
          refine wp_iconst (v := 1) rfl (by decide) ?_
          refine wp_S3 rfl mX6_worker_89 (Nat.le_of_ble_eq_true rfl) (r_in (in_rg (a := 0) (b := 1) (by omega) (by omega))) ?_
          rintro _ _ ⟨rfl, ⟨⟨q, -, hq, rfl⟩, rfl⟩ | ⟨hb, rfl⟩⟩
          · refine wp_if_ne (tgt := 48) rfl (by decide) ?_ ?_
            · intro _
              refine wp_iload_n rfl rfl ?_
              refine wp_if_ne (tgt := 61) rfl (by decide) ?_ ?_
              · intro h49
                have hq1 : q = 1 := by
                  rcases (show q = 0 ∨ q = 1 by omega) with e | e
                  · rw [e] at h49; exact absurd rfl h49
                  · exact e
                subst hq1
                refine wp_aload_n rfl rfl ?_
                refine wp_iload_n rfl rfl ?_
                refine wp_V1 rfl mX6_worker_143 (k0) (Nat.le_of_ble_eq_true rfl) (r_free hS hR1 hwf hk) ?_
                rintro _ _ ⟨rfl, rfl⟩
                refine wp_ireturn rfl .int rfl rfl ?_
                refine ⟨d1, rfl, hf1, Or.inl ⟨i, hi, rfl, Or.inl ⟨k, hk, rfl, ?_⟩⟩⟩
                dsimp only
                rw [if_neg (nI_ne (by omega) (by omega) (by omega)), if_pos rfl]
              · intro h49
                have hq0 : q = 0 := (nI_eq (b := 0) (by omega) (by omega)).mp h49
                subst hq0
                refine wp_aload_n rfl rfl ?_
                refine st_getR rfl fX6_38 rfl (by assumption) (by assumption) ?_
                refine wp_iload_n rfl rfl ?_
                refine st_iald rfl (by assumption) rfl (by omega) (by first | decide | omega) (hR1.2.2.2.1 k hk) ?_
                refine wp_goto (tgt := 66) rfl (by decide) ?_
                refine wp_ireturn rfl .int rfl rfl ?_
                refine ⟨d1, rfl, hf1, Or.inl ⟨i, hi, rfl, Or.inl ⟨k, hk, rfl, ?_⟩⟩⟩
                dsimp only
                rw [if_pos rfl]
            · intro hc
              exact absurd hc (by decide)
          · refine wp_if_ne (tgt := 48) rfl (by decide) ?_ ?_
            · intro hc
              exact absurd rfl hc
            · intro _
              refine wp_iconst (v := -1) rfl (by decide) ?_
              refine wp_ireturn rfl .int rfl rfl ?_
              refine ⟨d1, rfl, hf1, Or.inl ⟨i, hi, rfl, Or.inl ⟨k, hk, rfl, ?_⟩⟩⟩
              dsimp only
              rw [if_neg (nin_m hb 0 (by omega)), if_neg (nin_m hb 1 (by omega))]
      · refine wp_if_eq (tgt := 46) rfl (by decide) ?_ ?_
        · intro _
          refine wp_iconst (v := -1) rfl (by decide) ?_
          refine wp_ireturn rfl .int rfl rfl ?_
          exact ⟨d1, rfl, hf1, Or.inl ⟨i, hi, rfl, Or.inr ⟨nin_m hb, rfl⟩⟩⟩
        · intro hc
          exact absurd rfl hc
    · intro hc
      exact absurd rfl hc
  · refine wp_if_eq (tgt := 10) rfl (by decide) ?_ ?_
    · intro hc
      exact absurd hc (by decide)
    · intro _
      refine wp_iconst (v := -1) rfl (by decide) ?_
      refine wp_ireturn rfl .int rfl rfl ?_
      exact ⟨d, rfl, rFr_refl _ _, Or.inr ⟨h, rfl⟩⟩
theorem r_used (hS : rs kd r Y) (hN : d Y 1 = nI N) (h5 : N ≤ 5) {dn : Nat → Nat} {G : Nat → Nat → Nat → Int32} (hl : ∀ i, i < N → d (Y + 4) i = nI (dn i) ∧ dn i ≤ 60 ∧ ∀ k, k < dn i → ∀ j, j < 7 → d (Y + 7) (420 * i + 7 * k + j) = G i k j) : Cl X kX6_used [.inr (some Y), .inl x, .inl y] (K, z, kd, d, r) (fun rv M' => ∃ d', M' = (K, z, kd, d', r) ∧ rFr Y d d' ∧ mI N x (fun i => mI 4 y (fun k => rv = some (.inl (sUsed (rnS (G i) (dn i)).2.2.2.2.1 (nI k) (rnS (G i) (dn i)).2.1))) (rv = some (.inl (-1)))) (rv = some (.inl (-1)))) := by
  obtain ⟨k0, r2, r3, r4, r5, r6, r7, r8, r12, r13, r15, r17, r18, r19, r20, r21, r22, r23, r24, r25, k1, k2, k3, k4, k5, k6, k7, k8, k9, k10, k11, k12, k13, k14, k15, k16, k17, k18, k19, hY⟩ := id hS
  refine h_ofWp oX6_used (by decide) (Nat.le_of_ble_eq_true rfl) ?_
  refine wp_aload_n rfl rfl ?_
  refine wp_iload_n rfl rfl ?_
  refine wp_V1 rfl mX6_used_75 (k0) (Nat.le_of_ble_eq_true rfl) (r_no k0 hN h5) ?_
  rintro rv M' ⟨rfl, ⟨i, hi, rfl, rfl⟩ | ⟨h, rfl⟩⟩
  · obtain ⟨hli, h60, hG⟩ := hl i hi
    refine wp_if_ne (tgt := 17) rfl (by decide) ?_ ?_
    · intro hc
      exact absurd rfl hc
    · intro _
      refine wp_iload_n rfl rfl ?_
      refine wp_iconst (v := 0) rfl (by decide) ?_
      refine wp_iconst (v := 3) rfl (by decide) ?_
      refine wp_S3 rfl mX6_used_89 (Nat.le_of_ble_eq_true rfl) (r_in (in_rg (a := 0) (b := 3) (by omega) (by omega))) ?_
      rintro _ _ ⟨rfl, ⟨⟨k, -, hk, rfl⟩, rfl⟩ | ⟨hb, rfl⟩⟩
      · refine wp_if_ne (tgt := 19) rfl (by decide) ?_ ?_
        · intro _
          refine wp_aload_n rfl rfl ?_
          refine wp_iload_n rfl rfl ?_
          refine wp_aload_n rfl rfl ?_
          refine st_getR rfl fX6_19 rfl (by assumption) (by assumption) ?_
          refine wp_iload_n rfl rfl ?_
          refine st_iald rfl (by assumption) rfl (by omega) (by first | decide | omega) (hli) ?_
          refine wp_V2 rfl mX6_used_107 (k0) (Nat.le_of_ble_eq_true rfl) (r_replay hS (by omega) h60 hG) ?_
          rintro _ _ ⟨rfl, d1, rfl, hf1, hR1⟩
          refine wp_istore_n rfl (by decide) ?_
          refine wp_aload_n rfl rfl ?_
          refine wp_iload_n rfl rfl ?_
          refine wp_V1 rfl mX6_used_152 (k0) (Nat.le_of_ble_eq_true rfl) (r_uses hS hR1 (rnS_wf (G i) (dn i))) ?_
          rintro _ _ ⟨rfl, rfl⟩
          refine wp_ireturn rfl .int rfl rfl ?_
          exact ⟨d1, rfl, hf1, Or.inl ⟨i, hi, rfl, Or.inl ⟨k, hk, rfl, rfl⟩⟩⟩
        · intro hc
          exact absurd hc (by decide)
      · refine wp_if_ne (tgt := 19) rfl (by decide) ?_ ?_
        · intro hc
          exact absurd rfl hc
        · intro _
          refine wp_iconst (v := -1) rfl (by decide) ?_
          refine wp_ireturn rfl .int rfl rfl ?_
          exact ⟨d, rfl, rFr_refl _ _, Or.inl ⟨i, hi, rfl, Or.inr ⟨nin_m hb, rfl⟩⟩⟩
  · refine wp_if_ne (tgt := 17) rfl (by decide) ?_ ?_
    · intro _
      refine wp_iconst (v := -1) rfl (by decide) ?_
      refine wp_ireturn rfl .int rfl rfl ?_
      exact ⟨d, rfl, rFr_refl _ _, Or.inr ⟨h, rfl⟩⟩
    · intro hc
      exact absurd hc (by decide)
theorem r_count (hS : rs kd r Y) (hN : d Y 1 = nI N) (h5 : N ≤ 5) {f : Nat → Nat} (hl : ∀ i, i < N → d (Y + 1) i = nI (f i) ∧ f i < 1000000) : Cl X kX6_count [.inr (some Y), .inl x] (K, z, kd, d, r) (fun rv M' => rv = some (.inl (vCount (nI N) (d Y 10) (d Y 11) (nI (gMx f N)) x)) ∧ M' = (K, z, kd, d, r)) := by
  obtain ⟨k0, r2, r3, r4, r5, r6, r7, r8, r12, r13, r15, r17, r18, r19, r20, r21, r22, r23, r24, r25, k1, k2, k3, k4, k5, k6, k7, k8, k9, k10, k11, k12, k13, k14, k15, k16, k17, k18, k19, hY⟩ := id hS
  refine h_ofWp oX6_count (by decide) (Nat.le_of_ble_eq_true rfl) ?_
  have loop : ∀ n i, i + n = N → Wp X kX6_count K z 4 [some (.inr (some Y)), some (.inl x), some (.inl (nI (gMx f i))), some (.inl (nI i))] [] (K, z, kd, d, r) (fun rv M' => rv = some (.inl (vCount (nI N) (d Y 10) (d Y 11) (nI (gMx f N)) x)) ∧ M' = (K, z, kd, d, r)) := by
    intro n
    induction n with
    | zero =>
      intro i hi
      have : i = N := by omega
      subst this
      refine wp_iload_n rfl rfl ?_
      refine wp_aload_n rfl rfl ?_
      refine st_getI rfl fX6_68 rfl (by assumption) (hN) ?_
      refine wp_icmp_ge (tgt := 39) rfl (by decide) ?_ ?_
      · intro _
        refine wp_iload_n rfl rfl ?_
        rcases h_sw x 4 (by decide) with ⟨j, hj, rfl⟩ | hout
        · rcases (show j = 0 ∨ j = 1 ∨ j = 2 ∨ j = 3 by omega) with rfl | rfl | rfl | rfl
          · refine wp_tabIn (off := 32) (tgt := 72) rfl (by decide) (by decide) rfl (by decide) ?_
            refine wp_aload_n rfl rfl ?_
            refine st_getI rfl fX6_68 rfl (by assumption) (hN) ?_
            refine wp_ireturn rfl .int rfl rfl ?_
            exact ⟨rfl, rfl⟩
          · refine wp_tabIn (off := 37) (tgt := 77) rfl (by decide) (by decide) rfl (by decide) ?_
            refine wp_aload_n rfl rfl ?_
            refine st_getI rfl fX6_82 rfl (by assumption) rfl ?_
            refine wp_ireturn rfl .int rfl rfl ?_
            exact ⟨rfl, rfl⟩
          · refine wp_tabIn (off := 42) (tgt := 82) rfl (by decide) (by decide) rfl (by decide) ?_
            refine wp_aload_n rfl rfl ?_
            refine st_getI rfl fX6_115 rfl (by assumption) rfl ?_
            refine wp_ireturn rfl .int rfl rfl ?_
            exact ⟨rfl, rfl⟩
          · refine wp_tabIn (off := 47) (tgt := 87) rfl (by decide) (by decide) rfl (by decide) ?_
            refine wp_iload_n rfl rfl ?_
            refine wp_ireturn rfl .int rfl rfl ?_
            exact ⟨rfl, rfl⟩
        · refine wp_tabOut (tgt := 89) rfl hout (by decide) ?_
          refine wp_iconst (v := -1) rfl (by decide) ?_
          refine wp_ireturn rfl .int rfl rfl ?_
          refine ⟨?_, rfl⟩
          rw [vCount, if_neg (out_ne hout (by omega) (by omega)), if_neg (out_ne hout (by omega) (by omega)), if_neg (out_ne hout (by omega) (by omega)), if_neg (out_ne hout (by omega) (by omega))]
      · intro h
        exact absurd (nI_le (Nat.le_refl _) (by omega)) h
    | succ n ih =>
      intro i hi
      have hiN : i < N := by omega
      obtain ⟨hv, hb⟩ := hl i hiN
      have hg := gMx_lt (f := f) (b := 1000000) (by omega) i (fun a ha => (hl a (by omega)).2)
      have ih' := ih (i + 1) (by omega)
      simp only [gMx] at ih'
      refine wp_iload_n rfl rfl ?_
      refine wp_aload_n rfl rfl ?_
      refine st_getI rfl fX6_68 rfl (by assumption) (hN) ?_
      refine wp_icmp_ge (tgt := 39) rfl (by decide) ?_ ?_
      · intro h
        exact absurd h (nI_ge hiN (by omega))
      · intro _
        refine wp_aload_n rfl rfl ?_
        refine st_getR rfl fX6_7 rfl (by assumption) (by assumption) ?_
        refine wp_iload_n rfl rfl ?_
        refine st_iald rfl (by assumption) rfl (by omega) (by first | decide | omega) (hv) ?_
        refine wp_iload_n rfl rfl ?_
        refine wp_icmp_le (tgt := 31) rfl (by decide) ?_ ?_
        · intro h19
          rw [if_neg (fun q => by have := (nI_leI (by omega) (by omega)).mp h19; omega)] at ih'
          refine wp_iload_n rfl rfl ?_
          refine wp_istore_n rfl (by decide) ?_
          refine wp_inc rfl rfl (by decide) ?_
          refine wp_goto (tgt := 4) rfl (by decide) ?_
          exact ih'
        · intro h19
          rw [if_pos (by
            rcases Nat.lt_or_ge (gMx f i) (f i) with q | q
            · exact q
            · exact absurd (nI_le q (by omega)) h19)] at ih'
          refine wp_aload_n rfl rfl ?_
          refine st_getR rfl fX6_7 rfl (by assumption) (by assumption) ?_
          refine wp_iload_n rfl rfl ?_
          refine st_iald rfl (by assumption) rfl (by omega) (by first | decide | omega) (hv) ?_
          refine wp_goto (tgt := 32) rfl (by decide) ?_
          refine wp_istore_n rfl (by decide) ?_
          refine wp_inc rfl rfl (by decide) ?_
          refine wp_goto (tgt := 4) rfl (by decide) ?_
          exact ih'
  refine wp_iconst (v := 0) rfl (by decide) ?_
  refine wp_istore_n rfl (by decide) ?_
  refine wp_iconst (v := 0) rfl (by decide) ?_
  refine wp_istore_n rfl (by decide) ?_
  exact loop N 0 (by omega)
theorem r_give {n : Nat} (hS : rs kd r Y) (hn : d Y 11 = nI n) (hb : n < 4000) : Cl X kX6_give [.inr (some Y), .inl x, .inl y, .inl w] (K, z, kd, d, r) (fun rv M' => rv = some (.inl w) ∧ M' = (K, z, kd, hu (hu (hu (hu d (Y + 8) (3 * n) x) (Y + 8) (3 * n + 1) y) (Y + 8) (3 * n + 2) w) Y 11 (nI (n + 1)), r)) := by
  obtain ⟨k0, r2, r3, r4, r5, r6, r7, r8, r12, r13, r15, r17, r18, r19, r20, r21, r22, r23, r24, r25, k1, k2, k3, k4, k5, k6, k7, k8, k9, k10, k11, k12, k13, k14, k15, k16, k17, k18, k19, hY⟩ := id hS
  refine h_ofWp oX6_give (by decide) (Nat.le_of_ble_eq_true rfl) ?_
  have h3 : (3 : Int32) * nI n = nI (3 * n) := pk_mul 3 n
  have h31 : (3 : Int32) * nI n + 1 = nI (3 * n + 1) := by rw [h3]; exact nI_add _ 1
  have h32 : (3 : Int32) * nI n + 2 = nI (3 * n + 2) := by rw [h3]; exact nI_add _ 2
  refine wp_aload_n rfl rfl ?_
  refine st_getR rfl fX6_32 rfl (by assumption) (by assumption) ?_
  refine wp_iconst (v := 3) rfl (by decide) ?_
  refine wp_aload_n rfl rfl ?_
  refine st_getI rfl fX6_115 rfl (by assumption) (hn) ?_
  refine wp_imul rfl ?_
  refine wp_iload_n rfl rfl ?_
  refine st_iast rfl (by assumption) (by omega) (h3) (by omega) (by first | decide | omega) ?_
  refine wp_aload_n rfl rfl ?_
  refine st_getR rfl fX6_32 rfl (by assumption) (by assumption) ?_
  refine wp_iconst (v := 3) rfl (by decide) ?_
  refine wp_aload_n rfl rfl ?_
  refine st_getI rfl fX6_115 rfl (by assumption) ((hu_n (by omega)).trans hn) ?_
  refine wp_imul rfl ?_
  refine wp_iconst (v := 1) rfl (by decide) ?_
  refine wp_iadd rfl ?_
  refine wp_iload_n rfl rfl ?_
  refine st_iast rfl (by assumption) (by omega) (h31) (by omega) (by first | decide | omega) ?_
  refine wp_aload_n rfl rfl ?_
  refine st_getR rfl fX6_32 rfl (by assumption) (by assumption) ?_
  refine wp_iconst (v := 3) rfl (by decide) ?_
  refine wp_aload_n rfl rfl ?_
  refine st_getI rfl fX6_115 rfl (by assumption) ((hu_n (by omega)).trans ((hu_n (by omega)).trans hn)) ?_
  refine wp_imul rfl ?_
  refine wp_iconst (v := 2) rfl (by decide) ?_
  refine wp_iadd rfl ?_
  refine wp_iload_n rfl rfl ?_
  refine st_iast rfl (by assumption) (by omega) (h32) (by omega) (by first | decide | omega) ?_
  refine wp_aload_n rfl rfl ?_
  refine wp_dup rfl ?_
  refine st_getI rfl fX6_115 rfl (by assumption) ((hu_n (by omega)).trans ((hu_n (by omega)).trans ((hu_n (by omega)).trans hn))) ?_
  refine wp_iconst (v := 1) rfl (by decide) ?_
  refine wp_iadd rfl ?_
  refine st_putI rfl fX6_115 rfl rfl ⟨rfl, rfl⟩ (by assumption) ?_
  refine wp_iload_n rfl rfl ?_
  refine wp_ireturn rfl .int rfl rfl ?_
  exact ⟨rfl, by rw [nI_1]⟩
theorem r_isSame {a b p q : Nat} (hS : rs kd r Y) (ha : a < 5) (hb : b < 5) (hp : d (Y + 4) a = nI p) (hq : d (Y + 4) b = nI q) (p60 : p ≤ 60) (q60 : q ≤ 60) (hl : ∀ k, k < 7 * p → k < 7 * q → d (Y + 7) (420 * a + k) = d (Y + 7) (420 * b + k)) : Cl X kX6_isSame [.inr (some Y), .inl (nI a), .inl (nI b)] (K, z, kd, d, r) (fun rv M' => rv = some (.inl 1) ∧ M' = (K, z, kd, d, r)) := by
  obtain ⟨k0, r2, r3, r4, r5, r6, r7, r8, r12, r13, r15, r17, r18, r19, r20, r21, r22, r23, r24, r25, k1, k2, k3, k4, k5, k6, k7, k8, k9, k10, k11, k12, k13, k14, k15, k16, k17, k18, k19, hY⟩ := id hS
  refine h_ofWp oX6_isSame (by decide) (Nat.le_of_ble_eq_true rfl) ?_
  have h7p : (7 : Int32) * nI p = nI (7 * p) := pk_mul 7 p
  have h7q : (7 : Int32) * nI q = nI (7 * q) := pk_mul 7 q
  have fin : ∀ x4, Wp X kX6_isSame K z 78 [some (.inr (some Y)), some (.inl (nI a)), some (.inl (nI b)), some (.inl 1), x4] [] (K, z, kd, d, r) (fun rv M' => rv = some (.inl 1) ∧ M' = (K, z, kd, d, r)) := by
    intro x4
    refine wp_iload_n rfl rfl ?_
    refine wp_ireturn rfl .boolean rfl rfl ?_
    exact ⟨rfl, rfl⟩
  have loop : ∀ n k, k + n = 7 * p → Wp X kX6_isSame K z 5 [some (.inr (some Y)), some (.inl (nI a)), some (.inl (nI b)), some (.inl 1), some (.inl (nI k))] [] (K, z, kd, d, r) (fun rv M' => rv = some (.inl 1) ∧ M' = (K, z, kd, d, r)) := by
    intro n
    induction n with
    | zero =>
      intro k hk
      refine wp_iload rfl rfl ?_
      refine wp_bipush (v := 7) rfl (by decide) ?_
      refine wp_aload_n rfl rfl ?_
      refine st_getR rfl fX6_19 rfl (by assumption) (by assumption) ?_
      refine wp_iload_n rfl rfl ?_
      refine st_iald rfl (by assumption) rfl (by omega) (by first | decide | omega) (hp) ?_
      refine wp_imul rfl ?_
      rw [h7p]
      refine wp_icmp_ge (tgt := 78) rfl (by decide) ?_ ?_
      · intro _
        exact fin _
      · intro h
        exact absurd (nI_le (by omega) (by omega)) h
    | succ n ih =>
      intro k hk
      refine wp_iload rfl rfl ?_
      refine wp_bipush (v := 7) rfl (by decide) ?_
      refine wp_aload_n rfl rfl ?_
      refine st_getR rfl fX6_19 rfl (by assumption) (by assumption) ?_
      refine wp_iload_n rfl rfl ?_
      refine st_iald rfl (by assumption) rfl (by omega) (by first | decide | omega) (hp) ?_
      refine wp_imul rfl ?_
      rw [h7p]
      refine wp_icmp_ge (tgt := 78) rfl (by decide) ?_ ?_
      · intro h
        exact absurd h (nI_ge (by omega) (by omega))
      · intro _
        refine wp_iload rfl rfl ?_
        refine wp_bipush (v := 7) rfl (by decide) ?_
        refine wp_aload_n rfl rfl ?_
        refine st_getR rfl fX6_19 rfl (by assumption) (by assumption) ?_
        refine wp_iload_n rfl rfl ?_
        refine st_iald rfl (by assumption) rfl (by omega) (by first | decide | omega) (hq) ?_
        refine wp_imul rfl ?_
        rw [h7q]
        refine wp_icmp_ge (tgt := 78) rfl (by decide) ?_ ?_
        · intro _
          exact fin _
        · intro h30
          have hkq : k < 7 * q := by
            rcases Nat.lt_or_ge k (7 * q) with c | c
            · exact c
            · exact absurd (nI_le c (by omega)) h30
          refine wp_iload_n rfl rfl ?_
          refine wp_if_eq (tgt := 70) rfl (by decide) ?_ ?_
          · intro h
            exact absurd h (by decide)
          · intro _
            refine wp_aload_n rfl rfl ?_
            refine st_getR rfl fX6_29 rfl (by assumption) (by assumption) ?_
            refine wp_sipush (v := 420) rfl (by decide) ?_
            refine wp_iload_n rfl rfl ?_
            refine wp_imul rfl ?_
            refine wp_iload rfl rfl ?_
            refine wp_iadd rfl ?_
            refine st_iald rfl (by assumption) (ix_m 420 a k) (by omega) (by first | decide | omega) rfl ?_
            refine wp_aload_n rfl rfl ?_
            refine st_getR rfl fX6_29 rfl (by assumption) (by assumption) ?_
            refine wp_sipush (v := 420) rfl (by decide) ?_
            refine wp_iload_n rfl rfl ?_
            refine wp_imul rfl ?_
            refine wp_iload rfl rfl ?_
            refine wp_iadd rfl ?_
            refine st_iald rfl (by assumption) (ix_m 420 b k) (by omega) (by first | decide | omega) rfl ?_
            refine wp_icmp_ne (tgt := 70) rfl (by decide) ?_ ?_
            · intro h
              exact absurd (hl k (by omega) hkq) h
            · intro _
              refine wp_iconst (v := 1) rfl (by decide) ?_
              refine wp_goto (tgt := 71) rfl (by decide) ?_
              refine wp_istore_n rfl (by decide) ?_
              refine wp_inc rfl rfl (by decide) ?_
              refine wp_goto (tgt := 5) rfl (by decide) ?_
              exact ih (k + 1) (by omega)
  refine wp_iconst (v := 1) rfl (by decide) ?_
  refine wp_istore_n rfl (by decide) ?_
  refine wp_iconst (v := 0) rfl (by decide) ?_
  refine wp_istore rfl (by decide) ?_
  exact loop (7 * p) 0 (by omega)
end RREAD
