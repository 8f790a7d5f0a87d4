/-! THE CLASS: link, up, and what it tells -/
def mI (N : Nat) (x : Int32) (P : Nat → Prop) (Q : Prop) : Prop := (∃ i, i < N ∧ x = nI i ∧ P i) ∨ ((∀ i, i < N → x ≠ nI i) ∧ Q)
def vTold (a b c e f x : Int32) : Int32 := if x = nI 0 then a else if x = nI 1 then b else if x = nI 2 then c else if x = nI 3 then e else if x = nI 4 then (if f = 0 then 0 else 1) else -1
/-- field x of an order, or of seven numbers -/
def v7 (f : Nat → Int32) (x : Int32) : Int32 := if x = nI 0 then f 0 else if x = nI 1 then f 1 else if x = nI 2 then f 2 else if x = nI 3 then f 3 else if x = nI 4 then f 4 else if x = nI 5 then f 5 else if x = nI 6 then f 6 else -1
/-- what is told of a task with fields f -/
def vTask (f : Nat → Int32) (x : Int32) : Int32 := if x = nI 0 then f 4 else if x = nI 1 then f 5 else if x = nI 2 then (if f 4 = 1 then f 6 else -1) else if x = nI 3 then (if f 4 = 2 then f 7 else 0) else -1
theorem nI_ne {i j : Nat} (hi : i < 1000) (hj : j < 1000) (h : i ≠ j) : ¬ nI i = nI j := fun e => h ((nI_eq (by omega) (by omega)).mp e)
theorem out_ne {x : Int32} {n : Nat} (h : x.toInt < 0 ∨ (n : Int) - 1 < x.toInt) {i : Nat} (hi : i < n) (hn : n < 1000) : ¬ x = nI i := fun e => by
  rw [e, i_nI (by omega)] at h
  omega
section READ
variable {X : hX} {K z : Nat} {kd : Nat → Option hK} {d d0 : Nat → Nat → Int32} {r r0 : Nat → Nat → Option Nat} {N m j : Nat} {A : PS} {x y w : Int32}
theorem c_isMasterP (hS : Sh N kd r) (hd : d 1 0 = nI N) : Cl X kX5_isMaster [.inr (some 1), .inl x] (K, z, kd, d, r) (fun rv M' => M' = (K, z, kd, d, r) ∧ mI N x (fun _ => rv = some (.inl 1)) (rv = some (.inl 0))) := by
  refine (c_isMaster hS.2.1 hd (by have := hS.1; omega)).mono ?_
  rintro rv M' ⟨v, rfl, rfl, ⟨rfl, i, -, hi, rfl⟩ | ⟨rfl, h⟩⟩
  · exact ⟨rfl, Or.inl ⟨i, hi, rfl, rfl⟩⟩
  · exact ⟨rfl, Or.inr ⟨fun i hi => h i (Nat.zero_le _) hi, rfl⟩⟩
theorem nz_b {v : Int32} (h : v = 0 ∨ v = 1) : narrow .boolean (.int v) = .int v ∧ fits .boolean (.int v) = true := by
  rcases h with rfl | rfl <;> exact ⟨rfl, rfl⟩
theorem c_up {v : Int32} (hS : Sh N kd r) (hd : d 1 0 = nI N) (hv : v = 0 ∨ v = 1) : Cl X kX5_up [.inr (some 1), .inl x, .inl v] (K, z, kd, d, r) (fun rv M' => mI N x (fun i => rv = some (.inl 1) ∧ M' = (K, z, kd, hu d (8 + 30 * i) 8 v, r)) (rv = some (.inl 0) ∧ M' = (K, z, kd, d, r))) := by
  obtain ⟨hN, k1, a1, a2, a3, k2, k3, b0, b1, k4, k5, k6, hmm⟩ := id hS
  refine h_ofWp oX5_up (by decide) (Nat.le_of_ble_eq_true rfl) ?_
  refine wp_aload_n rfl rfl ?_
  refine wp_iload_n rfl rfl ?_
  refine wp_V1 rfl mX5_up_38 (k1) (Nat.le_of_ble_eq_true rfl) (c_isMasterP hS hd) ?_
  rintro rv M' ⟨rfl, ⟨i, hi, rfl, rfl⟩ | ⟨h, rfl⟩⟩
  · refine wp_if_ne (tgt := 10) rfl (by decide) ?_ ?_
    · intro _
      refine wp_aload_n rfl rfl ?_
      refine st_getR rfl fX5_26 rfl (by assumption) (by assumption) ?_
      refine wp_iload_n rfl rfl ?_
      refine st_aald (t0 := 2) rfl (by assumption) rfl rfl (hi) (by first | decide | omega) ((hmm i hi).1) ?_
      refine wp_iload_n rfl rfl ?_
      refine st_putI rfl fX5_42 rfl rfl (nz_b hv) ((hmm i hi).2.1) ?_
      refine wp_iconst (v := 1) rfl (by decide) ?_
      refine wp_ireturn rfl .boolean rfl rfl ?_
      exact Or.inl ⟨i, hi, rfl, rfl, rfl⟩
    · intro hc
      exact absurd hc (by decide)
  · refine wp_if_ne (tgt := 10) rfl (by decide) ?_ ?_
    · intro hc
      exact absurd rfl hc
    · intro _
      refine wp_iconst (v := 0) rfl (by decide) ?_
      refine wp_ireturn rfl .boolean rfl rfl ?_
      exact Or.inr ⟨h, rfl, rfl⟩
theorem c_link {v : Int32} (hS : Sh N kd r) (hd : d 1 0 = nI N) : Cl X kX5_link [.inr (some 1), .inl x, .inl y, .inl v] (K, z, kd, d, r) (fun rv M' => (∃ a b, a < N ∧ b < N ∧ a ≠ b ∧ x = nI a ∧ y = nI b ∧ rv = some (.inl 1) ∧ M' = (K, z, kd, hu (hu d 2 (a * N + b) (if v = 0 then 1 else 0)) 2 (b * N + a) (if v = 0 then 1 else 0), r)) ∨ ((∀ a b, a < N → b < N → a ≠ b → x = nI a → y = nI b → False) ∧ rv = some (.inl 0) ∧ M' = (K, z, kd, d, r))) := by
  obtain ⟨hN, k1, a1, a2, a3, k2, k3, b0, b1, k4, k5, k6, hmm⟩ := id hS
  refine h_ofWp oX5_link (by decide) (Nat.le_of_ble_eq_true rfl) ?_
  refine wp_aload_n rfl rfl ?_
  refine wp_iload_n rfl rfl ?_
  refine wp_V1 rfl mX5_link_38 (k1) (Nat.le_of_ble_eq_true rfl) (c_isMasterP hS hd) ?_
  rintro rv M' ⟨rfl, ⟨a, ha, rfl, rfl⟩ | ⟨h, rfl⟩⟩
  · refine wp_if_eq (tgt := 21) rfl (by decide) ?_ ?_
    · intro hc
      exact absurd hc (by decide)
    · intro _
      refine wp_aload_n rfl rfl ?_
      refine wp_iload_n rfl rfl ?_
      refine wp_V1 rfl mX5_link_38 (k1) (Nat.le_of_ble_eq_true rfl) (c_isMasterP hS hd) ?_
      rintro rv M' ⟨rfl, ⟨b, hb, rfl, rfl⟩ | ⟨h, rfl⟩⟩
      · refine wp_if_eq (tgt := 21) rfl (by decide) ?_ ?_
        · intro hc
          exact absurd hc (by decide)
        · intro _
          have hNN : N * N < 2147483648 := by rcases hN with rfl | rfl <;> decide
          have l1 : a * N + b < N * N := by rcases hN with rfl | rfl <;> omega
          have l2 : b * N + a < N * N := by rcases hN with rfl | rfl <;> omega
          have i1 : nI a * nI N + nI b = nI (a * N + b) := by rw [pk_mul, nI_add]
          have i2 : nI b * nI N + nI a = nI (b * N + a) := by rw [pk_mul, nI_add]
          refine wp_iload_n rfl rfl ?_
          refine wp_iload_n rfl rfl ?_
          refine wp_icmp_ne (tgt := 23) rfl (by decide) ?_ ?_
          · intro h18
            have hne : a ≠ b := fun e => h18 (by rw [e])
            refine wp_aload_n rfl rfl ?_
            refine st_getR rfl fX5_13 rfl (by assumption) (by assumption) ?_
            refine wp_iload_n rfl rfl ?_
            refine wp_aload_n rfl rfl ?_
            refine st_getI rfl fX5_7 rfl (by assumption) (hd) ?_
            refine wp_imul rfl ?_
            refine wp_iload_n rfl rfl ?_
            refine wp_iadd rfl ?_
            refine wp_iload_n rfl rfl ?_
            refine wp_if_ne (tgt := 43) rfl (by decide) ?_ ?_
            · intro hv
              refine wp_iconst (v := 0) rfl (by decide) ?_
              refine st_zast rfl k2 i1 l1 hNN rfl ?_
              refine wp_aload_n rfl rfl ?_
              refine st_getR rfl fX5_13 rfl (by assumption) (by assumption) ?_
              refine wp_iload_n rfl rfl ?_
              refine wp_aload_n rfl rfl ?_
              refine st_getI rfl fX5_7 rfl (by assumption) ((hu_n (by omega)).trans hd) ?_
              refine wp_imul rfl ?_
              refine wp_iload_n rfl rfl ?_
              refine wp_iadd rfl ?_
              refine wp_iload_n rfl rfl ?_
              refine wp_if_ne (tgt := 65) rfl (by decide) ?_ ?_
              · intro _
                refine wp_iconst (v := 0) rfl (by decide) ?_
                refine st_zast rfl k2 i2 l2 hNN rfl ?_
                refine wp_iconst (v := 1) rfl (by decide) ?_
                refine wp_ireturn rfl .boolean rfl rfl ?_
                exact Or.inl ⟨a, b, ha, hb, hne, rfl, rfl, rfl, by rw [if_neg hv]⟩
              · intro hc
                exact absurd hc hv
            · intro hv
              refine wp_iconst (v := 1) rfl (by decide) ?_
              refine wp_goto (tgt := 44) rfl (by decide) ?_
              refine st_zast rfl k2 i1 l1 hNN rfl ?_
              refine wp_aload_n rfl rfl ?_
              refine st_getR rfl fX5_13 rfl (by assumption) (by assumption) ?_
              refine wp_iload_n rfl rfl ?_
              refine wp_aload_n rfl rfl ?_
              refine st_getI rfl fX5_7 rfl (by assumption) ((hu_n (by omega)).trans hd) ?_
              refine wp_imul rfl ?_
              refine wp_iload_n rfl rfl ?_
              refine wp_iadd rfl ?_
              refine wp_iload_n rfl rfl ?_
              refine wp_if_ne (tgt := 65) rfl (by decide) ?_ ?_
              · intro hc
                exact absurd hv hc
              · intro _
                refine wp_iconst (v := 1) rfl (by decide) ?_
                refine wp_goto (tgt := 66) rfl (by decide) ?_
                refine st_zast rfl k2 i2 l2 hNN rfl ?_
                refine wp_iconst (v := 1) rfl (by decide) ?_
                refine wp_ireturn rfl .boolean rfl rfl ?_
                exact Or.inl ⟨a, b, ha, hb, hne, rfl, rfl, rfl, by rw [if_pos hv]⟩
          · intro h18
            refine wp_iconst (v := 0) rfl (by decide) ?_
            refine wp_ireturn rfl .boolean rfl rfl ?_
            exact Or.inr ⟨fun a' b' ha' hb' hne e1 e2 => hne ((nI_eq (by omega) (by omega)).mp (by rw [← e1, ← e2]; exact h18)), rfl, rfl⟩
      · refine wp_if_eq (tgt := 21) rfl (by decide) ?_ ?_
        · intro _
          refine wp_iconst (v := 0) rfl (by decide) ?_
          refine wp_ireturn rfl .boolean rfl rfl ?_
          exact Or.inr ⟨fun a' b' ha' hb' hne e1 e2 => h b' hb' e2, rfl, rfl⟩
        · intro hc
          exact absurd rfl hc
  · refine wp_if_eq (tgt := 21) rfl (by decide) ?_ ?_
    · intro _
      refine wp_iconst (v := 0) rfl (by decide) ?_
      refine wp_ireturn rfl .boolean rfl rfl ?_
      exact Or.inr ⟨fun a' b' ha' hb' hne e1 e2 => h a' ha' e1, rfl, rfl⟩
    · intro hc
      exact absurd rfl hc
theorem c_told (hS : Sh N kd r) (hd : d 1 0 = nI N) : Cl X kX5_told [.inr (some 1), .inl x, .inl y] (K, z, kd, d, r) (fun rv M' => M' = (K, z, kd, d, r) ∧ mI N x (fun i => rv = some (.inl (vTold (d (8 + 30 * i) 4) (d (8 + 30 * i) 5) (d (8 + 30 * i) 6) (d (8 + 30 * i) 7) (d (8 + 30 * i) 8) y))) (rv = some (.inl (-1)))) := by
  obtain ⟨hN, k1, a1, a2, a3, k2, k3, b0, b1, k4, k5, k6, hmm⟩ := id hS
  refine h_ofWp oX5_told (by decide) (Nat.le_of_ble_eq_true rfl) ?_
  refine wp_aload_n rfl rfl ?_
  refine wp_iload_n rfl rfl ?_
  refine wp_V1 rfl mX5_told_38 (k1) (Nat.le_of_ble_eq_true rfl) (c_isMasterP hS hd) ?_
  rintro rv M' ⟨rfl, ⟨i, hi, rfl, rfl⟩ | ⟨h, rfl⟩⟩
  · have km := (hmm i hi).2.1
    refine wp_if_ne (tgt := 10) rfl (by decide) ?_ ?_
    · intro _
      refine wp_aload_n rfl rfl ?_
      refine st_getR rfl fX5_26 rfl (by assumption) (by assumption) ?_
      refine wp_iload_n rfl rfl ?_
      refine st_aald (t0 := 2) rfl (by assumption) rfl rfl (hi) (by first | decide | omega) ((hmm i hi).1) ?_
      refine wp_astore_n rfl (by decide) ?_
      refine wp_iload_n rfl rfl ?_
      rcases h_sw y 5 (by decide) with ⟨j, hj, rfl⟩ | hout
      · rcases (show j = 0 ∨ j = 1 ∨ j = 2 ∨ j = 3 ∨ j = 4 by omega) with rfl | rfl | rfl | rfl | rfl
        · refine wp_tabIn (off := 34) (tgt := 52) rfl (by decide) (by decide) rfl (by decide) ?_
          refine wp_aload_n rfl rfl ?_
          refine st_getI rfl fX5_56 rfl (by assumption) rfl ?_
          refine wp_ireturn rfl .int rfl rfl ?_
          exact ⟨rfl, Or.inl ⟨i, hi, rfl, rfl⟩⟩
        · refine wp_tabIn (off := 39) (tgt := 57) rfl (by decide) (by decide) rfl (by decide) ?_
          refine wp_aload_n rfl rfl ?_
          refine st_getI rfl fX5_99 rfl (by assumption) rfl ?_
          refine wp_ireturn rfl .int rfl rfl ?_
          exact ⟨rfl, Or.inl ⟨i, hi, rfl, rfl⟩⟩
        · refine wp_tabIn (off := 44) (tgt := 62) rfl (by decide) (by decide) rfl (by decide) ?_
          refine wp_aload_n rfl rfl ?_
          refine st_getI rfl fX5_90 rfl (by assumption) rfl ?_
          refine wp_ireturn rfl .int rfl rfl ?_
          exact ⟨rfl, Or.inl ⟨i, hi, rfl, rfl⟩⟩
        · refine wp_tabIn (off := 49) (tgt := 67) rfl (by decide) (by decide) rfl (by decide) ?_
          refine wp_aload_n rfl rfl ?_
          refine st_getI rfl fX5_102 rfl (by assumption) rfl ?_
          refine wp_ireturn rfl .int rfl rfl ?_
          exact ⟨rfl, Or.inl ⟨i, hi, rfl, rfl⟩⟩
        · refine wp_tabIn (off := 54) (tgt := 72) rfl (by decide) (by decide) rfl (by decide) ?_
          refine wp_aload_n rfl rfl ?_
          refine st_getI rfl fX5_42 rfl (by assumption) rfl ?_
          refine wp_if_eq (tgt := 83) rfl (by decide) ?_ ?_
          · intro h76
            refine wp_iconst (v := 0) rfl (by decide) ?_
            refine wp_ireturn rfl .int rfl rfl ?_
            refine ⟨rfl, Or.inl ⟨i, hi, rfl, ?_⟩⟩
            dsimp only
            rw [show vTold (d (8 + 30 * i) 4) (d (8 + 30 * i) 5) (d (8 + 30 * i) 6) (d (8 + 30 * i) 7) (d (8 + 30 * i) 8) (nI 4) = (if d (8 + 30 * i) 8 = 0 then 0 else 1) from rfl]
            first | rw [if_pos h76] | rw [if_neg h76]
          · intro h76
            refine wp_iconst (v := 1) rfl (by decide) ?_
            refine wp_goto (tgt := 84) rfl (by decide) ?_
            refine wp_ireturn rfl .int rfl rfl ?_
            refine ⟨rfl, Or.inl ⟨i, hi, rfl, ?_⟩⟩
            dsimp only
            rw [show vTold (d (8 + 30 * i) 4) (d (8 + 30 * i) 5) (d (8 + 30 * i) 6) (d (8 + 30 * i) 7) (d (8 + 30 * i) 8) (nI 4) = (if d (8 + 30 * i) 8 = 0 then 0 else 1) from rfl]
            first | rw [if_pos h76] | rw [if_neg h76]
      · refine wp_tabOut (tgt := 85) rfl hout (by decide) ?_
        refine wp_iconst (v := -1) rfl (by decide) ?_
        refine wp_ireturn rfl .int rfl rfl ?_
        refine ⟨rfl, Or.inl ⟨i, hi, rfl, ?_⟩⟩
        dsimp only
        rw [vTold, if_neg (out_ne hout (by omega) (by omega)), if_neg (out_ne hout (by omega) (by omega)), if_neg (out_ne hout (by omega) (by omega)), if_neg (out_ne hout (by omega) (by omega)), if_neg (out_ne hout (by omega) (by omega))]
    · intro hc
      exact absurd hc (by decide)
  · refine wp_if_ne (tgt := 10) rfl (by decide) ?_ ?_
    · intro hc
      exact absurd rfl hc
    · intro _
      refine wp_iconst (v := -1) rfl (by decide) ?_
      refine wp_ireturn rfl .int rfl rfl ?_
      exact ⟨rfl, Or.inr ⟨h, rfl⟩⟩
theorem c_part2 {o : Nat} (ho : kd o = some (.inl 2)) : Cl X kX2_part [.inr (some o), .inl x] (K, z, kd, d, r) (fun rv M' => M' = (K, z, kd, d, r) ∧ rv = some (.inl (v7 (d o) x))) := by
  refine h_ofWp oX2_part (by decide) (Nat.le_of_ble_eq_true rfl) ?_
  refine wp_iload_n rfl rfl ?_
  rcases h_sw x 7 (by decide) with ⟨j, hj, rfl⟩ | hout
  · rcases (show j = 0 ∨ j = 1 ∨ j = 2 ∨ j = 3 ∨ j = 4 ∨ j = 5 ∨ j = 6 by omega) with rfl | rfl | rfl | rfl | rfl | rfl | rfl
    · refine wp_tabIn (off := 43) (tgt := 44) rfl (by decide) (by decide) rfl (by decide) ?_
      refine wp_aload_n rfl rfl ?_
      refine st_getI rfl fX2_9 rfl (by assumption) rfl ?_
      refine wp_ireturn rfl .int rfl rfl ?_
      exact ⟨rfl, rfl⟩
    · refine wp_tabIn (off := 48) (tgt := 49) rfl (by decide) (by decide) rfl (by decide) ?_
      refine wp_aload_n rfl rfl ?_
      refine st_getI rfl fX2_15 rfl (by assumption) rfl ?_
      refine wp_ireturn rfl .int rfl rfl ?_
      exact ⟨rfl, rfl⟩
    · refine wp_tabIn (off := 53) (tgt := 54) rfl (by decide) (by decide) rfl (by decide) ?_
      refine wp_aload_n rfl rfl ?_
      refine st_getI rfl fX2_18 rfl (by assumption) rfl ?_
      refine wp_ireturn rfl .int rfl rfl ?_
      exact ⟨rfl, rfl⟩
    · refine wp_tabIn (off := 58) (tgt := 59) rfl (by decide) (by decide) rfl (by decide) ?_
      refine wp_aload_n rfl rfl ?_
      refine st_getI rfl fX2_21 rfl (by assumption) rfl ?_
      refine wp_ireturn rfl .int rfl rfl ?_
      exact ⟨rfl, rfl⟩
    · refine wp_tabIn (off := 63) (tgt := 64) rfl (by decide) (by decide) rfl (by decide) ?_
      refine wp_aload_n rfl rfl ?_
      refine st_getI rfl fX2_24 rfl (by assumption) rfl ?_
      refine wp_ireturn rfl .int rfl rfl ?_
      exact ⟨rfl, rfl⟩
    · refine wp_tabIn (off := 68) (tgt := 69) rfl (by decide) (by decide) rfl (by decide) ?_
      refine wp_aload_n rfl rfl ?_
      refine st_getI rfl fX2_27 rfl (by assumption) rfl ?_
      refine wp_ireturn rfl .int rfl rfl ?_
      exact ⟨rfl, rfl⟩
    · refine wp_tabIn (off := 73) (tgt := 74) rfl (by decide) (by decide) rfl (by decide) ?_
      refine wp_aload_n rfl rfl ?_
      refine st_getI rfl fX2_30 rfl (by assumption) rfl ?_
      refine wp_ireturn rfl .int rfl rfl ?_
      exact ⟨rfl, rfl⟩
  · refine wp_tabOut (tgt := 79) rfl hout (by decide) ?_
    refine wp_iconst (v := -1) rfl (by decide) ?_
    refine wp_ireturn rfl .int rfl rfl ?_
    refine ⟨rfl, ?_⟩
    rw [v7, if_neg (out_ne hout (by omega) (by omega)), if_neg (out_ne hout (by omega) (by omega)), if_neg (out_ne hout (by omega) (by omega)), if_neg (out_ne hout (by omega) (by omega)), if_neg (out_ne hout (by omega) (by omega)), if_neg (out_ne hout (by omega) (by omega)), if_neg (out_ne hout (by omega) (by omega))]
theorem c_part4 {o : Nat} (ho : kd o = some (.inl 4)) : Cl X kX4_part [.inr (some o), .inl x] (K, z, kd, d, r) (fun rv M' => M' = (K, z, kd, d, r) ∧ rv = some (.inl (vTask (d o) x))) := by
  refine h_ofWp oX4_part (by decide) (Nat.le_of_ble_eq_true rfl) ?_
  refine wp_iload_n rfl rfl ?_
  rcases h_sw x 4 (by decide) with ⟨j, hj, rfl⟩ | hout
  · rcases (show j = 0 ∨ j = 1 ∨ j = 2 ∨ j = 3 by omega) with rfl | rfl | rfl | rfl
    · refine wp_tabIn (off := 31) (tgt := 32) rfl (by decide) (by decide) rfl (by decide) ?_
      refine wp_aload_n rfl rfl ?_
      refine st_getI rfl fX4_18 rfl (by assumption) rfl ?_
      refine wp_ireturn rfl .int rfl rfl ?_
      exact ⟨rfl, rfl⟩
    · refine wp_tabIn (off := 36) (tgt := 37) rfl (by decide) (by decide) rfl (by decide) ?_
      refine wp_aload_n rfl rfl ?_
      refine st_getI rfl fX4_21 rfl (by assumption) rfl ?_
      refine wp_ireturn rfl .int rfl rfl ?_
      exact ⟨rfl, rfl⟩
    · refine wp_tabIn (off := 41) (tgt := 42) rfl (by decide) (by decide) rfl (by decide) ?_
      refine wp_aload_n rfl rfl ?_
      refine st_getI rfl fX4_18 rfl (by assumption) rfl ?_
      refine wp_iconst (v := 1) rfl (by decide) ?_
      refine wp_icmp_ne (tgt := 57) rfl (by decide) ?_ ?_
      · intro h47
        refine wp_iconst (v := -1) rfl (by decide) ?_
        refine wp_ireturn rfl .int rfl rfl ?_
        refine ⟨rfl, ?_⟩
        rw [show vTask (d o) (nI 2) = (if d o 4 = 1 then d o 6 else -1) from rfl]
        first | rw [if_neg h47] | rw [if_pos h47]
      · intro h47
        refine wp_aload_n rfl rfl ?_
        refine st_getI rfl fX4_15 rfl (by assumption) rfl ?_
        refine wp_goto (tgt := 58) rfl (by decide) ?_
        refine wp_ireturn rfl .int rfl rfl ?_
        refine ⟨rfl, ?_⟩
        rw [show vTask (d o) (nI 2) = (if d o 4 = 1 then d o 6 else -1) from rfl]
        first | rw [if_neg h47] | rw [if_pos h47]
    · refine wp_tabIn (off := 58) (tgt := 59) rfl (by decide) (by decide) rfl (by decide) ?_
      refine wp_aload_n rfl rfl ?_
      refine st_getI rfl fX4_18 rfl (by assumption) rfl ?_
      refine wp_iconst (v := 2) rfl (by decide) ?_
      refine wp_icmp_ne (tgt := 74) rfl (by decide) ?_ ?_
      · intro h64
        refine wp_iconst (v := 0) rfl (by decide) ?_
        refine wp_ireturn rfl .int rfl rfl ?_
        refine ⟨rfl, ?_⟩
        rw [show vTask (d o) (nI 3) = (if d o 4 = 2 then d o 7 else 0) from rfl]
        first | rw [if_neg h64] | rw [if_pos h64]
      · intro h64
        refine wp_aload_n rfl rfl ?_
        refine st_getI rfl fX4_24 rfl (by assumption) rfl ?_
        refine wp_goto (tgt := 75) rfl (by decide) ?_
        refine wp_ireturn rfl .int rfl rfl ?_
        refine ⟨rfl, ?_⟩
        rw [show vTask (d o) (nI 3) = (if d o 4 = 2 then d o 7 else 0) from rfl]
        first | rw [if_neg h64] | rw [if_pos h64]
  · refine wp_tabOut (tgt := 76) rfl hout (by decide) ?_
    refine wp_iconst (v := -1) rfl (by decide) ?_
    refine wp_ireturn rfl .int rfl rfl ?_
    refine ⟨rfl, ?_⟩
    rw [vTask, if_neg (out_ne hout (by omega) (by omega)), if_neg (out_ne hout (by omega) (by omega)), if_neg (out_ne hout (by omega) (by omega)), if_neg (out_ne hout (by omega) (by omega))]
theorem c_log (hS : Sh N kd r) (hd : d 1 0 = nI N) (hes : ∀ i, i < N → es kd r (8 + 30 * i)) {ln : Nat → Nat} (hl : ∀ i, i < N → d (8 + 30 * i) 6 = nI (ln i) ∧ ln i ≤ 60) : Cl X kX5_log [.inr (some 1), .inl x, .inl y, .inl w] (K, z, kd, d, r) (fun rv M' => M' = (K, z, kd, d, r) ∧ mI N x (fun i => mI (ln i) y (fun k => rv = some (.inl (v7 (lf d r (8 + 30 * i) k) w))) (rv = some (.inl (-1)))) (rv = some (.inl (-1)))) := by
  obtain ⟨hN, k1, a1, a2, a3, k2, k3, b0, b1, k4, k5, k6, hmm⟩ := id hS
  refine h_ofWp oX5_log (by decide) (Nat.le_of_ble_eq_true rfl) ?_
  refine wp_aload_n rfl rfl ?_
  refine wp_iload_n rfl rfl ?_
  refine wp_V1 rfl mX5_log_38 (k1) (Nat.le_of_ble_eq_true rfl) (c_isMasterP hS hd) ?_
  rintro rv M' ⟨rfl, ⟨i, hi, rfl, rfl⟩ | ⟨h, rfl⟩⟩
  · obtain ⟨m0, m1, m2, m3, m4, m5, msc, m7⟩ := (hmm i hi).2
    obtain ⟨hli, h60⟩ := hl i hi
    refine wp_if_eq (tgt := 25) rfl (by decide) ?_ ?_
    · intro hc
      exact absurd hc (by decide)
    · intro _
      refine wp_iload_n rfl rfl ?_
      refine wp_if_lt (tgt := 25) rfl (by decide) ?_ ?_
      · intro h9
        refine wp_iconst (v := -1) rfl (by decide) ?_
        refine wp_ireturn rfl .int rfl rfl ?_
        exact ⟨rfl, Or.inl ⟨i, hi, rfl, Or.inr ⟨fun k hk e => nI_pos (n := k) (by omega) (e ▸ h9), rfl⟩⟩⟩
      · intro h9
        refine wp_iload_n rfl rfl ?_
        refine wp_aload_n rfl rfl ?_
        refine st_getR rfl fX5_26 rfl (by assumption) (by assumption) ?_
        refine wp_iload_n rfl rfl ?_
        refine st_aald (t0 := 2) rfl (by assumption) rfl rfl (hi) (by first | decide | omega) ((hmm i hi).1) ?_
        refine st_getI rfl fX5_90 rfl (by assumption) (hli) ?_
        refine wp_icmp_lt (tgt := 27) rfl (by decide) ?_ ?_
        · intro h22
          obtain ⟨k, hk, rfl⟩ := nI_of h9
          have hkl : k < ln i := (nI_ltI (by omega) (by omega)).mp h22
          obtain ⟨q1, q2⟩ := hes i hi k (by omega)
          refine wp_aload_n rfl rfl ?_
          refine st_getR rfl fX5_26 rfl (by assumption) (by assumption) ?_
          refine wp_iload_n rfl rfl ?_
          refine st_aald (t0 := 2) rfl (by assumption) rfl rfl (hi) (by first | decide | omega) ((hmm i hi).1) ?_
          refine st_getR rfl fX5_105 rfl (by assumption) (by assumption) ?_
          refine wp_iload_n rfl rfl ?_
          refine st_aald (t0 := 3) rfl (by assumption) rfl rfl (by omega) (by first | decide | omega) (q1) ?_
          refine wp_iload_n rfl rfl ?_
          refine wp_V1 rfl mX5_log_109 (q2) (Nat.le_of_ble_eq_true rfl) (c_part2 q2) ?_
          rintro _ _ ⟨rfl, rfl⟩
          refine wp_ireturn rfl .int rfl rfl ?_
          exact ⟨rfl, Or.inl ⟨i, hi, rfl, Or.inl ⟨k, hkl, rfl, rfl⟩⟩⟩
        · intro h22
          refine wp_iconst (v := -1) rfl (by decide) ?_
          refine wp_ireturn rfl .int rfl rfl ?_
          exact ⟨rfl, Or.inl ⟨i, hi, rfl, Or.inr ⟨fun k hk e => h22 (by rw [e]; exact nI_lt hk (by omega)), rfl⟩⟩⟩
  · refine wp_if_eq (tgt := 25) rfl (by decide) ?_ ?_
    · intro _
      refine wp_iconst (v := -1) rfl (by decide) ?_
      refine wp_ireturn rfl .int rfl rfl ?_
      exact ⟨rfl, Or.inr ⟨h, rfl⟩⟩
    · intro hc
      exact absurd rfl hc
theorem c_task (hS : Sh N kd r) (hd : d 1 0 = nI N) {tc : Nat → Nat} (hl : ∀ i, i < N → d (8 + 30 * i + 2) 7 = nI (tc i) ∧ tc i ≤ 20) : Cl X kX5_task [.inr (some 1), .inl x, .inl y, .inl w] (K, z, kd, d, r) (fun rv M' => M' = (K, z, kd, d, r) ∧ mI N x (fun i => mI (tc i) y (fun k => rv = some (.inl (vTask (tk d (8 + 30 * i + 2) k) w))) (rv = some (.inl (-1)))) (rv = some (.inl (-1)))) := by
  obtain ⟨hN, k1, a1, a2, a3, k2, k3, b0, b1, k4, k5, k6, hmm⟩ := id hS
  refine h_ofWp oX5_task (by decide) (Nat.le_of_ble_eq_true rfl) ?_
  refine wp_aload_n rfl rfl ?_
  refine wp_iload_n rfl rfl ?_
  refine wp_V1 rfl mX5_task_38 (k1) (Nat.le_of_ble_eq_true rfl) (c_isMasterP hS hd) ?_
  rintro rv M' ⟨rfl, ⟨i, hi, rfl, rfl⟩ | ⟨h, rfl⟩⟩
  · obtain ⟨m0, m1, m2, m3, m4, m5, msc, m7⟩ := (hmm i hi).2
    obtain ⟨s0, s1, s2, s3, s4, s5, s6, s7, s8, s9, s10, s11, s12, s13, s14, s15⟩ := msc
    obtain ⟨hli, h20⟩ := hl i hi
    refine wp_if_eq (tgt := 24) rfl (by decide) ?_ ?_
    · intro hc
      exact absurd hc (by decide)
    · intro _
      refine wp_aload_n rfl rfl ?_
      refine st_getR rfl fX5_26 rfl (by assumption) (by assumption) ?_
      refine wp_iload_n rfl rfl ?_
      refine st_aald (t0 := 2) rfl (by assumption) rfl rfl (hi) (by first | decide | omega) ((hmm i hi).1) ?_
      refine st_getR rfl fX5_112 rfl (by assumption) (by assumption) ?_
      refine wp_iload_n rfl rfl ?_
      refine wp_V1 rfl mX5_task_116 (s0) (Nat.le_of_ble_eq_true rfl) (c_isTask s0 hli (by omega)) ?_
      rintro _ _ ⟨v, rfl, rfl, ⟨rfl, k, -, hk, rfl⟩ | ⟨rfl, hk⟩⟩
      · refine wp_if_ne (tgt := 26) rfl (by decide) ?_ ?_
        · intro _
          refine wp_aload_n rfl rfl ?_
          refine st_getR rfl fX5_26 rfl (by assumption) (by assumption) ?_
          refine wp_iload_n rfl rfl ?_
          refine st_aald (t0 := 2) rfl (by assumption) rfl rfl (hi) (by first | decide | omega) ((hmm i hi).1) ?_
          refine st_getR rfl fX5_112 rfl (by assumption) (by assumption) ?_
          refine st_getR rfl fX5_121 rfl (by assumption) (by assumption) ?_
          refine wp_iload_n rfl rfl ?_
          refine st_aald (t0 := 4) rfl (by assumption) rfl rfl (by omega) (by first | decide | omega) (s13 k (by omega)) ?_
          refine wp_iload_n rfl rfl ?_
          refine wp_V1 rfl mX5_task_125 (s14 k (by omega)) (Nat.le_of_ble_eq_true rfl) (c_part4 (s14 k (by omega))) ?_
          rintro _ _ ⟨rfl, rfl⟩
          refine wp_ireturn rfl .int rfl rfl ?_
          exact ⟨rfl, Or.inl ⟨i, hi, rfl, Or.inl ⟨k, hk, rfl, rfl⟩⟩⟩
        · intro hc
          exact absurd hc (by decide)
      · refine wp_if_ne (tgt := 26) rfl (by decide) ?_ ?_
        · intro hc
          exact absurd rfl hc
        · intro _
          refine wp_iconst (v := -1) rfl (by decide) ?_
          refine wp_ireturn rfl .int rfl rfl ?_
          exact ⟨rfl, Or.inl ⟨i, hi, rfl, Or.inr ⟨fun k h => hk k (Nat.zero_le _) h, rfl⟩⟩⟩
  · refine wp_if_eq (tgt := 24) rfl (by decide) ?_ ?_
    · intro _
      refine wp_iconst (v := -1) rfl (by decide) ?_
      refine wp_ireturn rfl .int rfl rfl ?_
      exact ⟨rfl, Or.inr ⟨h, rfl⟩⟩
    · intro hc
      exact absurd rfl hc
theorem c_worker (hS : Sh N kd r) (hd : d 1 0 = nI N) {tc wc : Nat → Nat} (hl : ∀ i, i < N → d (8 + 30 * i + 2) 7 = nI (tc i) ∧ tc i ≤ 20 ∧ d (8 + 30 * i + 2) 6 = nI (wc i) ∧ wc i ≤ 6) : Cl X kX5_worker [.inr (some 1), .inl x, .inl y, .inl w] (K, z, kd, d, r) (fun rv M' => M' = (K, z, kd, d, r) ∧ mI N x (fun i => mI (wc i) y (fun k => rv = some (.inl (if w = nI 0 then d (8 + 30 * i + 2 + 3) k else if w = nI 1 then sFree (d (8 + 30 * i + 2 + 3) k) (tk d (8 + 30 * i + 2)) (nI k) (tc i) else -1))) (rv = some (.inl (-1)))) (rv = some (.inl (-1)))) := by
  obtain ⟨hN, k1, a1, a2, a3, k2, k3, b0, b1, k4, k5, k6, hmm⟩ := id hS
  refine h_ofWp oX5_worker (by decide) (Nat.le_of_ble_eq_true rfl) ?_
  refine wp_aload_n rfl rfl ?_
  refine wp_iload_n rfl rfl ?_
  refine wp_V1 rfl mX5_worker_38 (k1) (Nat.le_of_ble_eq_true rfl) (c_isMasterP hS hd) ?_
  rintro rv M' ⟨rfl, ⟨i, hi, rfl, rfl⟩ | ⟨h, rfl⟩⟩
  · obtain ⟨m0, m1, m2, m3, m4, m5, msc, m7⟩ := (hmm i hi).2
    obtain ⟨s0, s1, s2, s3, s4, s5, s6, s7, s8, s9, s10, s11, s12, s13, s14, s15⟩ := id msc
    obtain ⟨hli, h20, hwi, h6⟩ := hl i hi
    refine wp_if_eq (tgt := 24) rfl (by decide) ?_ ?_
    · intro hc
      exact absurd hc (by decide)
    · intro _
      refine wp_aload_n rfl rfl ?_
      refine st_getR rfl fX5_26 rfl (by assumption) (by assumption) ?_
      refine wp_iload_n rfl rfl ?_
      refine st_aald (t0 := 2) rfl (by assumption) rfl rfl (hi) (by first | decide | omega) ((hmm i hi).1) ?_
      refine st_getR rfl fX5_112 rfl (by assumption) (by assumption) ?_
      refine wp_iload_n rfl rfl ?_
      refine wp_V1 rfl mX5_worker_128 (s0) (Nat.le_of_ble_eq_true rfl) (c_isWorker s0 hwi (by omega)) ?_
      rintro _ _ ⟨v, rfl, rfl, ⟨rfl, k, -, hk, rfl⟩ | ⟨rfl, hk⟩⟩
      · refine wp_if_ne (tgt := 26) rfl (by decide) ?_ ?_
        · intro _
          refine wp_aload_n rfl rfl ?_
          refine st_getR rfl fX5_26 rfl (by assumption) (by assumption) ?_
          refine wp_iload_n rfl rfl ?_
          refine st_aald (t0 := 2) rfl (by assumption) rfl rfl (hi) (by first | decide | omega) ((hmm i hi).1) ?_
          refine st_getR rfl fX5_112 rfl (by assumption) (by assumption) ?_
          refine wp_astore rfl (by decide) ?_
          refine wp_iload_n rfl rfl ?_
          by_cases w0 : w = nI 0
          · subst w0
            refine wp_look (off := 26) (tgt := 64) rfl (by decide) (by decide) (by decide) ?_
            refine wp_aload rfl rfl ?_
            refine st_getR rfl fX5_131 rfl (by assumption) (by assumption) ?_
            refine wp_iload_n rfl rfl ?_
            refine st_iald rfl (by assumption) rfl (by omega) (by first | decide | omega) rfl ?_
            refine wp_ireturn rfl .int rfl rfl ?_
            exact ⟨rfl, Or.inl ⟨i, hi, rfl, Or.inl ⟨k, hk, rfl, rfl⟩⟩⟩
          · by_cases w1 : w = nI 1
            · subst w1
              refine wp_look (off := 34) (tgt := 72) rfl (by decide) (by decide) (by decide) ?_
              refine wp_aload rfl rfl ?_
              refine wp_iload_n rfl rfl ?_
              refine wp_V1 rfl mX5_worker_135 (s0) (Nat.le_of_ble_eq_true rfl) (c_freeOn msc hli h20 (by omega)) ?_
              rintro _ _ ⟨rfl, rfl⟩
              refine wp_ireturn rfl .int rfl rfl ?_
              exact ⟨rfl, Or.inl ⟨i, hi, rfl, Or.inl ⟨k, hk, rfl, rfl⟩⟩⟩
            · refine wp_look (off := 41) (tgt := 79) rfl (by decide) ?_ (by decide) ?_
              · rw [lv_osw (k := nI 0) w0 (by decide), lv_osw (k := nI 1) w1 (by decide)]
                rfl
              · refine wp_iconst (v := -1) rfl (by decide) ?_
                refine wp_ireturn rfl .int rfl rfl ?_
                exact ⟨rfl, Or.inl ⟨i, hi, rfl, Or.inl ⟨k, hk, rfl, by dsimp only; rw [if_neg w0, if_neg w1]⟩⟩⟩
        · intro hc
          exact absurd hc (by decide)
      · refine wp_if_ne (tgt := 26) rfl (by decide) ?_ ?_
        · intro hc
          exact absurd rfl hc
        · intro _
          refine wp_iconst (v := -1) rfl (by decide) ?_
          refine wp_ireturn rfl .int rfl rfl ?_
          exact ⟨rfl, Or.inl ⟨i, hi, rfl, Or.inr ⟨fun k h => hk k (Nat.zero_le _) h, rfl⟩⟩⟩
  · refine wp_if_eq (tgt := 24) rfl (by decide) ?_ ?_
    · intro _
      refine wp_iconst (v := -1) rfl (by decide) ?_
      refine wp_ireturn rfl .int rfl rfl ?_
      exact ⟨rfl, Or.inr ⟨h, rfl⟩⟩
    · intro hc
      exact absurd rfl hc
theorem c_used (hS : Sh N kd r) (hd : d 1 0 = nI N) {tc : Nat → Nat} (hl : ∀ i, i < N → d (8 + 30 * i + 2) 7 = nI (tc i) ∧ tc i ≤ 20) : Cl X kX5_used [.inr (some 1), .inl x, .inl y] (K, z, kd, d, r) (fun rv M' => M' = (K, z, kd, d, r) ∧ mI N x (fun i => mI 4 y (fun k => rv = some (.inl (sUsed (tk d (8 + 30 * i + 2)) (nI k) (tc i)))) (rv = some (.inl (-1)))) (rv = some (.inl (-1)))) := by
  obtain ⟨hN, k1, a1, a2, a3, k2, k3, b0, b1, k4, k5, k6, hmm⟩ := id hS
  refine h_ofWp oX5_used (by decide) (Nat.le_of_ble_eq_true rfl) ?_
  refine wp_aload_n rfl rfl ?_
  refine wp_iload_n rfl rfl ?_
  refine wp_V1 rfl mX5_used_38 (k1) (Nat.le_of_ble_eq_true rfl) (c_isMasterP hS hd) ?_
  rintro rv M' ⟨rfl, ⟨i, hi, rfl, rfl⟩ | ⟨h, rfl⟩⟩
  · obtain ⟨m0, m1, m2, m3, m4, m5, msc, m7⟩ := (hmm i hi).2
    obtain ⟨s0, s1, s2, s3, s4, s5, s6, s7, s8, s9, s10, s11, s12, s13, s14, s15⟩ := id msc
    obtain ⟨hli, h20⟩ := hl i hi
    refine wp_if_eq (tgt := 24) rfl (by decide) ?_ ?_
    · intro hc
      exact absurd hc (by decide)
    · intro _
      refine wp_aload_n rfl rfl ?_
      refine st_getR rfl fX5_26 rfl (by assumption) (by assumption) ?_
      refine wp_iload_n rfl rfl ?_
      refine st_aald (t0 := 2) rfl (by assumption) rfl rfl (hi) (by first | decide | omega) ((hmm i hi).1) ?_
      refine st_getR rfl fX5_112 rfl (by assumption) (by assumption) ?_
      refine wp_iload_n rfl rfl ?_
      refine wp_V1 rfl mX5_used_138 (s0) (Nat.le_of_ble_eq_true rfl) (c_isUser) ?_
      rintro _ _ ⟨v, rfl, rfl, ⟨rfl, k, -, hk, rfl⟩ | ⟨rfl, hk⟩⟩
      · refine wp_if_ne (tgt := 26) rfl (by decide) ?_ ?_
        · intro _
          refine wp_aload_n rfl rfl ?_
          refine st_getR rfl fX5_26 rfl (by assumption) (by assumption) ?_
          refine wp_iload_n rfl rfl ?_
          refine st_aald (t0 := 2) rfl (by assumption) rfl rfl (hi) (by first | decide | omega) ((hmm i hi).1) ?_
          refine st_getR rfl fX5_112 rfl (by assumption) (by assumption) ?_
          refine wp_iload_n rfl rfl ?_
          refine wp_V1 rfl mX5_used_141 (s0) (Nat.le_of_ble_eq_true rfl) (c_usedBy msc hli h20) ?_
          rintro _ _ ⟨rfl, rfl⟩
          refine wp_ireturn rfl .int rfl rfl ?_
          exact ⟨rfl, Or.inl ⟨i, hi, rfl, Or.inl ⟨k, hk, rfl, rfl⟩⟩⟩
        · intro hc
          exact absurd hc (by decide)
      · refine wp_if_ne (tgt := 26) rfl (by decide) ?_ ?_
        · intro hc
          exact absurd rfl hc
        · intro _
          refine wp_iconst (v := -1) rfl (by decide) ?_
          refine wp_ireturn rfl .int rfl rfl ?_
          exact ⟨rfl, Or.inl ⟨i, hi, rfl, Or.inr ⟨fun k h => hk k (Nat.zero_le _) h, rfl⟩⟩⟩
  · refine wp_if_eq (tgt := 24) rfl (by decide) ?_ ?_
    · intro _
      refine wp_iconst (v := -1) rfl (by decide) ?_
      refine wp_ireturn rfl .int rfl rfl ?_
      exact ⟨rfl, Or.inr ⟨h, rfl⟩⟩
    · intro hc
      exact absurd rfl hc
/-- the greatest of the first k numbers -/
def gMx (f : Nat → Nat) : Nat → Nat
  | 0 => 0
  | k + 1 => if gMx f k < f k then f k else gMx f k
theorem gMx_lt {f : Nat → Nat} {b : Nat} (hb : 0 < b) : ∀ k, (∀ i, i < k → f i < b) → gMx f k < b := by
  intro k
  induction k with
  | zero => intro _; exact hb
  | succ k ih =>
    intro h
    simp only [gMx]
    split
    · exact h k (by omega)
    · exact ih (fun i hi => h i (by omega))
theorem c_greatestView (hS : Sh N kd r) (hd : d 1 0 = nI N) {f : Nat → Nat} (hl : ∀ i, i < N → d (8 + 30 * i) 4 = nI (f i) ∧ f i < 1000000) : Cl X kX5_greatestView [.inr (some 1)] (K, z, kd, d, r) (fun rv M' => rv = some (.inl (nI (gMx f N))) ∧ M' = (K, z, kd, d, r)) := by
  obtain ⟨hN, k1, a1, a2, a3, k2, k3, b0, b1, k4, k5, k6, hmm⟩ := id hS
  refine h_ofWp oX5_greatestView (by decide) (Nat.le_of_ble_eq_true rfl) ?_
  have loop : ∀ n i, i + n = N → Wp X kX5_greatestView K z 4 [some (.inr (some 1)), some (.inl (nI (gMx f i))), some (.inl (nI i))] [] (K, z, kd, d, r) (fun rv M' => rv = some (.inl (nI (gMx f N))) ∧ M' = (K, z, kd, d, r)) := by
    intro n
    induction n with
    | zero =>
      intro i hi
      have : i = N := by omega
      subst this
      refine wp_iload_n rfl rfl ?_
      refine wp_aload_n rfl rfl ?_
      refine st_getI rfl fX5_7 rfl (by assumption) (hd) ?_
      refine wp_icmp_ge (tgt := 32) rfl (by decide) ?_ ?_
      · intro _
        refine wp_iload_n rfl rfl ?_
        refine wp_ireturn rfl .int rfl rfl (⟨rfl, rfl⟩)
      · intro h
        exact absurd (nI_le (Nat.le_refl _) (by omega)) h
    | succ n ih =>
      intro i hi
      have hiN : i < N := by omega
      have km := (hmm i hiN).2.1
      obtain ⟨hv, hb⟩ := hl i hiN
      have hg := gMx_lt (f := f) (b := 1000000) (by omega) i (fun a ha => (hl a (by omega)).2)
      refine wp_iload_n rfl rfl ?_
      refine wp_aload_n rfl rfl ?_
      refine st_getI rfl fX5_7 rfl (by assumption) (hd) ?_
      refine wp_icmp_ge (tgt := 32) rfl (by decide) ?_ ?_
      · intro h
        exact absurd h (nI_ge hiN (by omega))
      · intro _
        refine wp_iload_n rfl rfl ?_
        refine wp_aload_n rfl rfl ?_
        refine st_getR rfl fX5_26 rfl (by assumption) (by assumption) ?_
        refine wp_iload_n rfl rfl ?_
        refine st_aald (t0 := 2) rfl (by assumption) rfl rfl (hiN) (by first | decide | omega) ((hmm i hiN).1) ?_
        refine st_getI rfl fX5_56 rfl (by assumption) (hv) ?_
        refine wp_S2 rfl mX5_greatestView_169 (Nat.le_of_ble_eq_true rfl) (c_max) ?_
        rintro _ _ ⟨rfl, rfl⟩
        have e : (if nI (gMx f i) < nI (f i) then nI (f i) else nI (gMx f i)) = nI (gMx f (i + 1)) := by
          simp only [gMx]
          by_cases hc : gMx f i < f i
          · rw [if_pos hc, if_pos ((nI_ltI (by omega) (by omega)).mpr hc)]
          · rw [if_neg hc, if_neg (fun q => hc ((nI_ltI (by omega) (by omega)).mp q))]
        rw [e]
        refine wp_istore_n rfl (by decide) ?_
        refine wp_inc rfl rfl (by decide) ?_
        refine wp_goto (tgt := 4) rfl (by decide) ?_
        exact ih (i + 1) (by omega)
  refine wp_iconst (v := 0) rfl (by decide) ?_
  refine wp_istore_n rfl (by decide) ?_
  refine wp_iconst (v := 0) rfl (by decide) ?_
  refine wp_istore_n rfl (by decide) ?_
  exact loop N 0 (by omega)
def vCount (a b c e x : Int32) : Int32 := if x = nI 0 then a else if x = nI 1 then b else if x = nI 2 then c else if x = nI 3 then e else -1
theorem c_count (hS : Sh N kd r) (hd : d 1 0 = nI N) {f : Nat → Nat} (hl : ∀ i, i < N → d (8 + 30 * i) 4 = nI (f i) ∧ f i < 1000000) : Cl X kX5_count [.inr (some 1), .inl x] (K, z, kd, d, r) (fun rv M' => rv = some (.inl (vCount (nI N) (d 1 5) (d 3 2) (nI (gMx f N)) x)) ∧ M' = (K, z, kd, d, r)) := by
  obtain ⟨hN, k1, a1, a2, a3, k2, k3, b0, b1, k4, k5, k6, hmm⟩ := id hS
  refine h_ofWp oX5_count (by decide) (Nat.le_of_ble_eq_true rfl) ?_
  refine wp_iload_n rfl rfl ?_
  rcases h_sw x 4 (by decide) with ⟨j, hj, rfl⟩ | hout
  · rcases (show j = 0 ∨ j = 1 ∨ j = 2 ∨ j = 3 by omega) with rfl | rfl | rfl | rfl
    · refine wp_tabIn (off := 31) (tgt := 32) rfl (by decide) (by decide) rfl (by decide) ?_
      refine wp_aload_n rfl rfl ?_
      refine st_getI rfl fX5_7 rfl (by assumption) (hd) ?_
      refine wp_ireturn rfl .int rfl rfl ?_
      exact ⟨rfl, rfl⟩
    · refine wp_tabIn (off := 36) (tgt := 37) rfl (by decide) (by decide) rfl (by decide) ?_
      refine wp_aload_n rfl rfl ?_
      refine st_getI rfl fX5_154 rfl (by assumption) rfl ?_
      refine wp_ireturn rfl .int rfl rfl ?_
      exact ⟨rfl, rfl⟩
    · refine wp_tabIn (off := 41) (tgt := 42) rfl (by decide) (by decide) rfl (by decide) ?_
      refine wp_aload_n rfl rfl ?_
      refine st_getR rfl fX5_20 rfl (by assumption) (by assumption) ?_
      refine st_getI rfl fX5_157 rfl (by assumption) rfl ?_
      refine wp_ireturn rfl .int rfl rfl ?_
      exact ⟨rfl, rfl⟩
    · refine wp_tabIn (off := 49) (tgt := 50) rfl (by decide) (by decide) rfl (by decide) ?_
      refine wp_aload_n rfl rfl ?_
      refine wp_V0 rfl mX5_count_160 (by assumption) (Nat.le_of_ble_eq_true rfl) (c_greatestView hS hd hl) ?_
      rintro _ _ ⟨rfl, rfl⟩
      refine wp_ireturn rfl .int rfl rfl ?_
      exact ⟨rfl, rfl⟩
  · refine wp_tabOut (tgt := 55) rfl hout (by decide) ?_
    refine wp_iconst (v := -1) rfl (by decide) ?_
    refine wp_ireturn rfl .int rfl rfl ?_
    refine ⟨?_, rfl⟩
    rw [vCount, if_neg (out_ne hout (by omega) (by omega)), if_neg (out_ne hout (by omega) (by omega)), if_neg (out_ne hout (by omega) (by omega)), if_neg (out_ne hout (by omega) (by omega))]
end READ
