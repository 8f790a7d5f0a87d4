/-! THE REFERENCE: calls that are refused -/
section RBAD
variable {X : hX} {K z : Nat} {kd : Nat → Option hK} {d d0 : Nat → Nat → Int32} {r : Nat → Nat → Option Nat} {N Y m j : Nat} {A : PS} {x y w : Int32}
theorem r_changeB (hS : rs kd r Y) (hN : d Y 1 = nI N) (h5 : N ≤ 5) (hno : ¬ (inR x 0 N ∧ inR y 0 41)) : Cl X kX6_change [.inr (some Y), .inl x, .inl y] (K, z, kd, d, r) (fun rv M' => rv = some (.inl (-1)) ∧ M' = (K, z, kd, d, r)) := by
  have k0 := hS.1
  refine h_ofWp oX6_change (by decide) (Nat.le_of_ble_eq_true rfl) ?_
  refine wp_aload_n rfl rfl ?_
  refine wp_iload_n rfl rfl ?_
  refine wp_V1 rfl mX6_change_75 (k0) (Nat.le_of_ble_eq_true rfl) (r_no k0 hN h5) ?_
  rintro _ _ ⟨rfl, ⟨i, hi, rfl, rfl⟩ | ⟨h, rfl⟩⟩
  · refine wp_if_ne (tgt := 18) rfl (by decide) ?_ ?_
    · intro hc
      exact absurd rfl hc
    · intro _
      refine wp_iload_n rfl rfl ?_
      refine wp_iconst (v := 0) rfl (by decide) ?_
      refine wp_bipush (v := 40) rfl (by decide) ?_
      refine wp_S3 rfl mX6_change_89 (Nat.le_of_ble_eq_true rfl) (r_in (in_rg (a := 0) (b := 40) (by omega) (by omega))) ?_
      rintro _ _ ⟨rfl, ⟨hb, rfl⟩ | ⟨hb, rfl⟩⟩
      · exact absurd ⟨⟨i, Nat.zero_le _, hi, rfl⟩, hb⟩ hno
      · refine wp_if_ne (tgt := 20) rfl (by decide) ?_ ?_
        · intro hc
          exact absurd rfl hc
        · intro _
          refine wp_iconst (v := -1) rfl (by decide) ?_
          refine wp_ireturn rfl .int rfl rfl ?_
          exact ⟨rfl, rfl⟩
  · refine wp_if_ne (tgt := 18) rfl (by decide) ?_ ?_
    · intro _
      refine wp_iconst (v := -1) rfl (by decide) ?_
      refine wp_ireturn rfl .int rfl rfl ?_
      exact ⟨rfl, rfl⟩
    · intro hc
      exact absurd hc (by decide)
theorem r_changeD {c : Nat} (hS : rs kd r Y) (hN : d Y 1 = nI N) (h5 : N ≤ 5) (hm : m < N) (hc : c ≤ 40) (hdn : ¬ d (Y + 5) m = 0) : Cl X kX6_change [.inr (some Y), .inl (nI m), .inl (nI c)] (K, z, kd, d, r) (fun rv M' => rv = some (.inl (-3)) ∧ M' = (K, z, kd, d, r)) := by
  obtain ⟨k0, r2, r3, r4, r5, r6, r7, r8, r12, r13, r15, r17, r18, r19, r20, r21, r22, r23, r24, r25, k1, k2, k3, k4, k5, k6, k7, k8, k9, k10, k11, k12, k13, k14, k15, k16, k17, k18, k19, hY⟩ := id hS
  refine h_ofWp oX6_change (by decide) (Nat.le_of_ble_eq_true rfl) ?_
  refine wp_aload_n rfl rfl ?_
  refine wp_iload_n rfl rfl ?_
  refine wp_V1 rfl mX6_change_75 (k0) (Nat.le_of_ble_eq_true rfl) (r_no k0 hN h5) ?_
  rintro _ _ ⟨rfl, ⟨i, hi, e, rfl⟩ | ⟨h, rfl⟩⟩
  · refine wp_if_ne (tgt := 18) rfl (by decide) ?_ ?_
    · intro hc
      exact absurd rfl hc
    · intro _
      refine wp_iload_n rfl rfl ?_
      refine wp_iconst (v := 0) rfl (by decide) ?_
      refine wp_bipush (v := 40) rfl (by decide) ?_
      refine wp_S3 rfl mX6_change_89 (Nat.le_of_ble_eq_true rfl) (r_in (in_rg (a := 0) (b := 40) (by omega) (by omega))) ?_
      rintro _ _ ⟨rfl, ⟨hb, rfl⟩ | ⟨hb, rfl⟩⟩
      · refine wp_if_ne (tgt := 20) rfl (by decide) ?_ ?_
        · intro _
          refine wp_aload_n rfl rfl ?_
          refine st_getR rfl fX6_22 rfl (by assumption) (by assumption) ?_
          refine wp_iload_n rfl rfl ?_
          refine st_zald rfl (by assumption) rfl (by omega) (by first | decide | omega) rfl ?_
          refine wp_if_eq (tgt := 32) rfl (by decide) ?_ ?_
          · intro hc
            exact absurd hc hdn
          · intro _
            refine wp_bipush (v := -3) rfl (by decide) ?_
            refine wp_ireturn rfl .int rfl rfl ?_
            exact ⟨rfl, rfl⟩
        · intro hc
          exact absurd hc (by decide)
      · exact absurd ⟨c, Nat.zero_le _, by omega, rfl⟩ hb
  · exact absurd rfl (h m hm)
theorem r_orderB {cl nu ki a b e f : Int32} (hS : rs kd r Y) (hN : d Y 1 = nI N) (h5 : N ≤ 5) (hno : ¬ (inR x 0 N ∧ inR cl 0 4 ∧ inR nu 1 1001 ∧ inR y 0 41)) : Cl X kX6_order [.inr (some Y), .inl x, .inl cl, .inl nu, .inl ki, .inl a, .inl b, .inl e, .inl f, .inl y] (K, z, kd, d, r) (fun rv M' => rv = some (.inl (-1)) ∧ M' = (K, z, kd, d, r)) := by
  have k0 := hS.1
  refine h_ofWp oX6_order (by decide) (Nat.le_of_ble_eq_true rfl) ?_
  have bad : Wp X kX6_order K z 39 [some (.inr (some Y)), some (.inl x), some (.inl cl), some (.inl nu), some (.inl ki), some (.inl a), some (.inl b), some (.inl e), some (.inl f), some (.inl y), none, none, none, none, none] [] (K, z, kd, d, r) (fun rv M' => rv = some (.inl (-1)) ∧ M' = (K, z, kd, d, r)) := by
    refine wp_iconst (v := -1) rfl (by decide) ?_
    refine wp_ireturn rfl .int rfl rfl ?_
    exact ⟨rfl, rfl⟩
  refine wp_aload_n rfl rfl ?_
  refine wp_iload_n rfl rfl ?_
  refine wp_V1 rfl mX6_order_75 (k0) (Nat.le_of_ble_eq_true rfl) (r_no k0 hN h5) ?_
  rintro _ _ ⟨rfl, ⟨i, hi, rfl, rfl⟩ | ⟨h, rfl⟩⟩
  · refine wp_if_ne (tgt := 39) rfl (by decide) ?_ ?_
    · intro hc
      exact absurd rfl hc
    · intro _
      refine wp_iload_n rfl rfl ?_
      refine wp_iconst (v := 0) rfl (by decide) ?_
      refine wp_iconst (v := 3) rfl (by decide) ?_
      refine wp_S3 rfl mX6_order_89 (Nat.le_of_ble_eq_true rfl) (r_in (in_rg (a := 0) (b := 3) (by omega) (by omega))) ?_
      rintro _ _ ⟨rfl, ⟨h1, rfl⟩ | ⟨h1, rfl⟩⟩
      · refine wp_if_eq (tgt := 39) rfl (by decide) ?_ ?_
        · intro hc
          exact absurd hc (by decide)
        · intro _
          refine wp_iload_n rfl rfl ?_
          refine wp_iconst (v := 1) rfl (by decide) ?_
          refine wp_sipush (v := 1000) rfl (by decide) ?_
          refine wp_S3 rfl mX6_order_89 (Nat.le_of_ble_eq_true rfl) (r_in (in_rg (a := 1) (b := 1000) (by omega) (by omega))) ?_
          rintro _ _ ⟨rfl, ⟨h2, rfl⟩ | ⟨h2, rfl⟩⟩
          · refine wp_if_eq (tgt := 39) rfl (by decide) ?_ ?_
            · intro hc
              exact absurd hc (by decide)
            · intro _
              refine wp_iload rfl rfl ?_
              refine wp_iconst (v := 0) rfl (by decide) ?_
              refine wp_bipush (v := 40) rfl (by decide) ?_
              refine wp_S3 rfl mX6_order_89 (Nat.le_of_ble_eq_true rfl) (r_in (in_rg (a := 0) (b := 40) (by omega) (by omega))) ?_
              rintro _ _ ⟨rfl, ⟨h3, rfl⟩ | ⟨h3, rfl⟩⟩
              · exact absurd ⟨⟨i, Nat.zero_le _, hi, rfl⟩, h1, h2, h3⟩ hno
              · refine wp_if_ne (tgt := 41) rfl (by decide) ?_ ?_
                · intro hc
                  exact absurd rfl hc
                · intro _
                  exact bad
          · refine wp_if_eq (tgt := 39) rfl (by decide) ?_ ?_
            · intro _
              exact bad
            · intro hc
              exact absurd rfl hc
      · refine wp_if_eq (tgt := 39) rfl (by decide) ?_ ?_
        · intro _
          exact bad
        · intro hc
          exact absurd rfl hc
  · refine wp_if_ne (tgt := 39) rfl (by decide) ?_ ?_
    · intro _
      exact bad
    · intro hc
      exact absurd hc (by decide)
theorem r_orderN {c : Nat} {cl nu ki a b e f : Int32} (hS : rs kd r Y) (hW : rW N Y d A d) (hN : d Y 1 = nI N) (hN3 : N = 3 ∨ N = 5) (hm : m < N) (hc : c ≤ 40) (hcl : inR cl 0 4) (hnu : inR nu 1 1001) (hno : ¬ (d (Y + 5) m = 0 ∧ pv A m = pn A m ∧ pv A m % N = m)) : Cl X kX6_order [.inr (some Y), .inl (nI m), .inl cl, .inl nu, .inl ki, .inl a, .inl b, .inl e, .inl f, .inl (nI c)] (K, z, kd, d, r) (fun rv M' => rv = some (.inl (-3)) ∧ M' = (K, z, kd, d, r)) := by
  obtain ⟨k0, r2, r3, r4, r5, r6, r7, r8, r12, r13, r15, r17, r18, r19, r20, r21, r22, r23, r24, r25, k1, k2, k3, k4, k5, k6, k7, k8, k9, k10, k11, k12, k13, k14, k15, k16, k17, k18, k19, hY⟩ := id hS
  have h5 : N ≤ 5 := by omega
  obtain ⟨v1, v2, v3, v4, l60, e60, vb, nb, hlg⟩ := hW.2.1 m hm
  refine h_ofWp oX6_order (by decide) (Nat.le_of_ble_eq_true rfl) ?_
  have bad : Wp X kX6_order K z 73 [some (.inr (some Y)), some (.inl (nI m)), some (.inl cl), some (.inl nu), some (.inl ki), some (.inl a), some (.inl b), some (.inl e), some (.inl f), some (.inl (nI c)), none, none, none, none, none] [] (K, z, kd, d, r) (fun rv M' => rv = some (.inl (-3)) ∧ M' = (K, z, kd, d, r)) := by
    refine wp_bipush (v := -3) rfl (by decide) ?_
    refine wp_ireturn rfl .int rfl rfl ?_
    exact ⟨rfl, rfl⟩
  refine wp_aload_n rfl rfl ?_
  refine wp_iload_n rfl rfl ?_
  refine wp_V1 rfl mX6_order_75 (k0) (Nat.le_of_ble_eq_true rfl) (r_no k0 hN h5) ?_
  rintro _ _ ⟨rfl, ⟨i, hi, ei, rfl⟩ | ⟨h, rfl⟩⟩
  · refine wp_if_ne (tgt := 39) rfl (by decide) ?_ ?_
    · intro h
      exact absurd rfl h
    · intro _
      refine wp_iload_n rfl rfl ?_
      refine wp_iconst (v := 0) rfl (by decide) ?_
      refine wp_iconst (v := 3) rfl (by decide) ?_
      refine wp_S3 rfl mX6_order_89 (Nat.le_of_ble_eq_true rfl) (r_in (in_rg (a := 0) (b := 3) (by omega) (by omega))) ?_
      rintro _ _ ⟨rfl, ⟨-, rfl⟩ | ⟨hb, rfl⟩⟩
      · refine wp_if_eq (tgt := 39) rfl (by decide) ?_ ?_
        · intro h
          exact absurd h (by decide)
        · intro _
          refine wp_iload_n rfl rfl ?_
          refine wp_iconst (v := 1) rfl (by decide) ?_
          refine wp_sipush (v := 1000) rfl (by decide) ?_
          refine wp_S3 rfl mX6_order_89 (Nat.le_of_ble_eq_true rfl) (r_in (in_rg (a := 1) (b := 1000) (by omega) (by omega))) ?_
          rintro _ _ ⟨rfl, ⟨-, rfl⟩ | ⟨hb, rfl⟩⟩
          · refine wp_if_eq (tgt := 39) rfl (by decide) ?_ ?_
            · intro h
              exact absurd h (by decide)
            · intro _
              refine wp_iload rfl rfl ?_
              refine wp_iconst (v := 0) rfl (by decide) ?_
              refine wp_bipush (v := 40) rfl (by decide) ?_
              refine wp_S3 rfl mX6_order_89 (Nat.le_of_ble_eq_true rfl) (r_in (in_rg (a := 0) (b := 40) (by omega) (by omega))) ?_
              rintro _ _ ⟨rfl, ⟨-, rfl⟩ | ⟨hb, rfl⟩⟩
              · refine wp_if_ne (tgt := 41) rfl (by decide) ?_ ?_
                · intro _
                  refine wp_aload_n rfl rfl ?_
                  refine st_getR rfl fX6_22 rfl (by assumption) (by assumption) ?_
                  refine wp_iload_n rfl rfl ?_
                  refine st_zald rfl (by assumption) rfl (by omega) (by first | decide | omega) rfl ?_
                  refine wp_if_ne (tgt := 73) rfl (by decide) ?_ ?_
                  · intro _
                    exact bad
                  · intro h47
                    refine wp_aload_n rfl rfl ?_
                    refine wp_iload_n rfl rfl ?_
                    refine wp_V1 rfl mX6_order_101 (k0) (Nat.le_of_ble_eq_true rfl) (r_isNormal hS (by omega)) ?_
                    rintro _ _ ⟨rfl, rfl⟩
                    by_cases hnm : pv A m = pn A m
                    · rw [bI, if_pos (show d (Y + 1) m = d (Y + 2) m by rw [v1, v2, hnm])]
                      refine wp_if_eq (tgt := 73) rfl (by decide) ?_ ?_
                      · intro h
                        exact absurd h (by decide)
                      · intro _
                        refine wp_aload_n rfl rfl ?_
                        refine st_getR rfl fX6_7 rfl (by assumption) (by assumption) ?_
                        refine wp_iload_n rfl rfl ?_
                        refine st_iald rfl (by assumption) rfl (by omega) (by first | decide | omega) (v1) ?_
                        refine wp_aload_n rfl rfl ?_
                        refine st_getI rfl fX6_68 rfl (by assumption) (hN) ?_
                        refine wp_irem rfl (nI_ne0 (by omega) (by omega)) ?_
                        rw [nI_mod (by omega) (by omega) vb]
                        refine wp_iload_n rfl rfl ?_
                        refine wp_icmp_eq (tgt := 76) rfl (by decide) ?_ ?_
                        · intro h70
                          exact absurd ⟨h47, hnm, (nI_eq (by have := Nat.mod_lt (pv A m) (show 0 < N by omega); omega) (by omega)).mp h70⟩ hno
                        · intro _
                          exact bad
                    · rw [bI, if_neg (show ¬ d (Y + 1) m = d (Y + 2) m by rw [v1, v2]; exact fun q => hnm ((nI_eq (by omega) (by omega)).mp q))]
                      refine wp_if_eq (tgt := 73) rfl (by decide) ?_ ?_
                      · intro _
                        exact bad
                      · intro h
                        exact absurd rfl h
                · intro h
                  exact absurd h (by decide)
              · exact absurd ⟨c, Nat.zero_le _, by omega, rfl⟩ hb
          · exact absurd hnu hb
      · exact absurd hcl hb
  · exact absurd rfl (h m hm)
end RBAD
