/-! THE LAW -/
set_option maxRecDepth 20000 in
set_option maxHeartbeats 4000000 in
theorem law_ok : LawOk := by
  intro X n xs hn
  generalize hQ : (fun (r : Option hV) (M' : hM) => r = some (.inl 1) ∧ mK M' ≤ 600001 ∧ mz M' ≤ 7302250) = Q
  have step : ∀ (N : Nat), (N = 3 ∨ N = 5) → ∀ q M, q ≤ 600 → FuE N q n xs M → (∀ M', q < 600 → FuE N (q + 1) n xs M' → Wp X kL_law 1 0 28 [some (.inr (some 0)), some (.inr (some 1)), some (.inr (some (8 + 30 * N))), some (.inl (nI (1 + 10 * (q + 1))))] [] M' Q) → Wp X kL_law 1 0 28 [some (.inr (some 0)), some (.inr (some 1)), some (.inr (some (8 + 30 * N))), some (.inl (nI (1 + 10 * q)))] [] M Q := by
    intro N hN q M hq hFE cont
    obtain ⟨K, z, kd, d, r⟩ := M
    obtain ⟨A, an, hFu⟩ := hFE
    have hFu : Fu N q n K z xs kd d r A an := hFu
    obtain ⟨k0, hx, k1, kY⟩ : kd 0 = some (.inr (.inl (.int, n))) ∧ (∀ j, d 0 j = xs j) ∧ kd 1 = some (.inl 5) ∧ kd (8 + 30 * N) = some (.inl 6) := Fu_vs hFu
    obtain ⟨-, -, -, bK, bK2, bz⟩ := hFu.2.2.2.2.2.2.2.2.2.2.2.1
    have e10 : (nI n - 10).toInt = (n : Int) - 10 := by
      have := i_sub (a := nI n) (b := 10) (by rw [i_nI (by omega), show (10 : Int32).toInt = 10 by decide]; omega) (by rw [i_nI (by omega), show (10 : Int32).toInt = 10 by decide]; omega)
      rw [this, i_nI (by omega), show (10 : Int32).toInt = 10 by decide]
    refine wp_iload_n rfl rfl ?_
    refine wp_aload_n rfl rfl ?_
    refine st_alen rfl (k0) ?_
    refine wp_bipush (v := 10) rfl (by decide) ?_
    refine wp_isub rfl ?_
    refine wp_icmp_gt (tgt := 589) rfl (by decide) ?_ ?_
    · intro _
      refine wp_iconst (v := 1) rfl (by decide) ?_
      refine wp_ireturn rfl .boolean rfl rfl ?_
      rw [← hQ]
      exact ⟨rfl, by show K ≤ 600001; omega, by show z ≤ 7302250; omega⟩
    · intro h34
      have hlen : 10 * q + 11 ≤ n := by
        rw [i_lt, e10, i_nI (by omega)] at h34
        omega
      have hq2 : q ≤ 511 := by omega
      have next : ∀ M2, FuE N (q + 1) n xs M2 → Wp X kL_law 1 0 583 [some (.inr (some 0)), some (.inr (some 1)), some (.inr (some (8 + 30 * N))), some (.inl (nI (1 + 10 * q)))] [] M2 Q := by
        intro M2 hFE2
        refine wp_iinc (v := nI (1 + 10 * (q + 1))) rfl rfl (nI_add (1 + 10 * q) 10) (by decide) ?_
        refine wp_goto (tgt := 28) rfl (by decide) ?_
        exact cont M2 (by omega) hFE2
      refine wp_aload_n rfl rfl ?_
      refine wp_iload_n rfl rfl ?_
      refine st_iald rfl (k0) rfl (by omega) (by first | decide | omega) (hx _) ?_
      refine wp_bipush (v := 15) rfl (by decide) ?_
      refine wp_iand rfl ?_
      generalize xs (1 + 10 * q) &&& 15 = sw
      rcases h_sw sw 11 (by decide) with ⟨j, hj, rfl⟩ | hout
      · rcases (show j = 0 ∨ j = 1 ∨ j = 2 ∨ j = 3 ∨ j = 4 ∨ j = 5 ∨ j = 6 ∨ j = 7 ∨ j = 8 ∨ j = 9 ∨ j = 10 by omega) with rfl | rfl | rfl | rfl | rfl | rfl | rfl | rfl | rfl | rfl | rfl
        · refine wp_tabIn (off := 57) (tgt := 100) rfl (by decide) (by decide) rfl (by decide) ?_
          by_cases hz : xs (1 + 10 * q + 3) = 0
          · obtain ⟨Q1, hc1, hc2⟩ := op_link (X := X) (x := xs (1 + 10 * q + 1)) (y := xs (1 + 10 * q + 2)) (v := 0) hFu
            refine wp_aload_n rfl rfl ?_
            refine wp_aload_n rfl rfl ?_
            refine wp_iload_n rfl rfl ?_
            refine wp_iconst (v := 1) rfl (by decide) ?_
            refine wp_iadd rfl ?_
            refine st_iald rfl (k0) (nI_add _ 1) (by omega) (by first | decide | omega) (hx _) ?_
            refine wp_aload_n rfl rfl ?_
            refine wp_iload_n rfl rfl ?_
            refine wp_iconst (v := 2) rfl (by decide) ?_
            refine wp_iadd rfl ?_
            refine st_iald rfl (k0) (nI_add _ 2) (by omega) (by first | decide | omega) (hx _) ?_
            refine wp_aload_n rfl rfl ?_
            refine wp_iload_n rfl rfl ?_
            refine wp_iconst (v := 3) rfl (by decide) ?_
            refine wp_iadd rfl ?_
            refine st_iald rfl (k0) (nI_add _ 3) (by omega) (by first | decide | omega) (hx _) ?_
            refine wp_if_eq (tgt := 123) rfl (by decide) ?_ ?_
            · intro _
              refine wp_iconst (v := 0) rfl (by decide) ?_
              refine wp_V3 rfl mL_law_21 (k1) (Nat.le_of_ble_eq_true rfl) (hc1) ?_
              rintro rv1 ⟨K1, z1, kd1, d1, r1⟩ h1
              obtain ⟨⟨e0, ex, e1, eY⟩, v, rfl, hc⟩ := hc2 _ _ h1
              refine wp_aload_n rfl rfl ?_
              refine wp_aload_n rfl rfl ?_
              refine wp_iload_n rfl rfl ?_
              refine wp_iconst (v := 1) rfl (by decide) ?_
              refine wp_iadd rfl ?_
              refine st_iald rfl (e0) (nI_add _ 1) (by omega) (by first | decide | omega) (ex _) ?_
              refine wp_aload_n rfl rfl ?_
              refine wp_iload_n rfl rfl ?_
              refine wp_iconst (v := 2) rfl (by decide) ?_
              refine wp_iadd rfl ?_
              refine st_iald rfl (e0) (nI_add _ 2) (by omega) (by first | decide | omega) (ex _) ?_
              refine wp_aload_n rfl rfl ?_
              refine wp_iload_n rfl rfl ?_
              refine wp_iconst (v := 3) rfl (by decide) ?_
              refine wp_iadd rfl ?_
              refine st_iald rfl (e0) (nI_add _ 3) (by omega) (by first | decide | omega) (ex _) ?_
              refine wp_if_eq (tgt := 150) rfl (by decide) ?_ ?_
              · intro _
                refine wp_iconst (v := 0) rfl (by decide) ?_
                refine wp_V3 rfl mL_law_25 (eY) (Nat.le_of_ble_eq_true rfl) (hc) ?_
                rintro _ M2 ⟨rfl, hFE⟩
                refine wp_icmp_eq (tgt := 583) rfl (by decide) ?_ ?_
                · intro _
                  exact next M2 hFE
                · intro h
                  exact absurd rfl h
              · intro h
                exact absurd hz h
            · intro h
              exact absurd hz h
          · obtain ⟨Q1, hc1, hc2⟩ := op_link (X := X) (x := xs (1 + 10 * q + 1)) (y := xs (1 + 10 * q + 2)) (v := 1) hFu
            refine wp_aload_n rfl rfl ?_
            refine wp_aload_n rfl rfl ?_
            refine wp_iload_n rfl rfl ?_
            refine wp_iconst (v := 1) rfl (by decide) ?_
            refine wp_iadd rfl ?_
            refine st_iald rfl (k0) (nI_add _ 1) (by omega) (by first | decide | omega) (hx _) ?_
            refine wp_aload_n rfl rfl ?_
            refine wp_iload_n rfl rfl ?_
            refine wp_iconst (v := 2) rfl (by decide) ?_
            refine wp_iadd rfl ?_
            refine st_iald rfl (k0) (nI_add _ 2) (by omega) (by first | decide | omega) (hx _) ?_
            refine wp_aload_n rfl rfl ?_
            refine wp_iload_n rfl rfl ?_
            refine wp_iconst (v := 3) rfl (by decide) ?_
            refine wp_iadd rfl ?_
            refine st_iald rfl (k0) (nI_add _ 3) (by omega) (by first | decide | omega) (hx _) ?_
            refine wp_if_eq (tgt := 123) rfl (by decide) ?_ ?_
            · intro h
              exact absurd h hz
            · intro _
              refine wp_iconst (v := 1) rfl (by decide) ?_
              refine wp_goto (tgt := 124) rfl (by decide) ?_
              refine wp_V3 rfl mL_law_21 (k1) (Nat.le_of_ble_eq_true rfl) (hc1) ?_
              rintro rv1 ⟨K1, z1, kd1, d1, r1⟩ h1
              obtain ⟨⟨e0, ex, e1, eY⟩, v, rfl, hc⟩ := hc2 _ _ h1
              refine wp_aload_n rfl rfl ?_
              refine wp_aload_n rfl rfl ?_
              refine wp_iload_n rfl rfl ?_
              refine wp_iconst (v := 1) rfl (by decide) ?_
              refine wp_iadd rfl ?_
              refine st_iald rfl (e0) (nI_add _ 1) (by omega) (by first | decide | omega) (ex _) ?_
              refine wp_aload_n rfl rfl ?_
              refine wp_iload_n rfl rfl ?_
              refine wp_iconst (v := 2) rfl (by decide) ?_
              refine wp_iadd rfl ?_
              refine st_iald rfl (e0) (nI_add _ 2) (by omega) (by first | decide | omega) (ex _) ?_
              refine wp_aload_n rfl rfl ?_
              refine wp_iload_n rfl rfl ?_
              refine wp_iconst (v := 3) rfl (by decide) ?_
              refine wp_iadd rfl ?_
              refine st_iald rfl (e0) (nI_add _ 3) (by omega) (by first | decide | omega) (ex _) ?_
              refine wp_if_eq (tgt := 150) rfl (by decide) ?_ ?_
              · intro h
                exact absurd h hz
              · intro _
                refine wp_iconst (v := 1) rfl (by decide) ?_
                refine wp_goto (tgt := 151) rfl (by decide) ?_
                refine wp_V3 rfl mL_law_25 (eY) (Nat.le_of_ble_eq_true rfl) (hc) ?_
                rintro _ M2 ⟨rfl, hFE⟩
                refine wp_icmp_eq (tgt := 583) rfl (by decide) ?_ ?_
                · intro _
                  exact next M2 hFE
                · intro h
                  exact absurd rfl h
        · refine wp_tabIn (off := 116) (tgt := 159) rfl (by decide) (by decide) rfl (by decide) ?_
          by_cases hz : xs (1 + 10 * q + 2) = 0
          · obtain ⟨Q1, hc1, hc2⟩ := op_up (X := X) (x := xs (1 + 10 * q + 1)) (v := 0) hFu (Or.inl rfl)
            refine wp_aload_n rfl rfl ?_
            refine wp_aload_n rfl rfl ?_
            refine wp_iload_n rfl rfl ?_
            refine wp_iconst (v := 1) rfl (by decide) ?_
            refine wp_iadd rfl ?_
            refine st_iald rfl (k0) (nI_add _ 1) (by omega) (by first | decide | omega) (hx _) ?_
            refine wp_aload_n rfl rfl ?_
            refine wp_iload_n rfl rfl ?_
            refine wp_iconst (v := 2) rfl (by decide) ?_
            refine wp_iadd rfl ?_
            refine st_iald rfl (k0) (nI_add _ 2) (by omega) (by first | decide | omega) (hx _) ?_
            refine wp_if_eq (tgt := 177) rfl (by decide) ?_ ?_
            · intro _
              refine wp_iconst (v := 0) rfl (by decide) ?_
              refine wp_V2 rfl mL_law_26 (k1) (Nat.le_of_ble_eq_true rfl) (hc1) ?_
              rintro rv1 ⟨K1, z1, kd1, d1, r1⟩ h1
              obtain ⟨⟨e0, ex, e1, eY⟩, v, rfl, hc⟩ := hc2 _ _ h1
              refine wp_aload_n rfl rfl ?_
              refine wp_aload_n rfl rfl ?_
              refine wp_iload_n rfl rfl ?_
              refine wp_iconst (v := 1) rfl (by decide) ?_
              refine wp_iadd rfl ?_
              refine st_iald rfl (e0) (nI_add _ 1) (by omega) (by first | decide | omega) (ex _) ?_
              refine wp_aload_n rfl rfl ?_
              refine wp_iload_n rfl rfl ?_
              refine wp_iconst (v := 2) rfl (by decide) ?_
              refine wp_iadd rfl ?_
              refine st_iald rfl (e0) (nI_add _ 2) (by omega) (by first | decide | omega) (ex _) ?_
              refine wp_if_eq (tgt := 199) rfl (by decide) ?_ ?_
              · intro _
                refine wp_iconst (v := 0) rfl (by decide) ?_
                refine wp_V2 rfl mL_law_30 (eY) (Nat.le_of_ble_eq_true rfl) (hc) ?_
                rintro _ M2 ⟨rfl, hFE⟩
                refine wp_icmp_eq (tgt := 583) rfl (by decide) ?_ ?_
                · intro _
                  exact next M2 hFE
                · intro h
                  exact absurd rfl h
              · intro h
                exact absurd hz h
            · intro h
              exact absurd hz h
          · obtain ⟨Q1, hc1, hc2⟩ := op_up (X := X) (x := xs (1 + 10 * q + 1)) (v := 1) hFu (Or.inr rfl)
            refine wp_aload_n rfl rfl ?_
            refine wp_aload_n rfl rfl ?_
            refine wp_iload_n rfl rfl ?_
            refine wp_iconst (v := 1) rfl (by decide) ?_
            refine wp_iadd rfl ?_
            refine st_iald rfl (k0) (nI_add _ 1) (by omega) (by first | decide | omega) (hx _) ?_
            refine wp_aload_n rfl rfl ?_
            refine wp_iload_n rfl rfl ?_
            refine wp_iconst (v := 2) rfl (by decide) ?_
            refine wp_iadd rfl ?_
            refine st_iald rfl (k0) (nI_add _ 2) (by omega) (by first | decide | omega) (hx _) ?_
            refine wp_if_eq (tgt := 177) rfl (by decide) ?_ ?_
            · intro h
              exact absurd h hz
            · intro _
              refine wp_iconst (v := 1) rfl (by decide) ?_
              refine wp_goto (tgt := 178) rfl (by decide) ?_
              refine wp_V2 rfl mL_law_26 (k1) (Nat.le_of_ble_eq_true rfl) (hc1) ?_
              rintro rv1 ⟨K1, z1, kd1, d1, r1⟩ h1
              obtain ⟨⟨e0, ex, e1, eY⟩, v, rfl, hc⟩ := hc2 _ _ h1
              refine wp_aload_n rfl rfl ?_
              refine wp_aload_n rfl rfl ?_
              refine wp_iload_n rfl rfl ?_
              refine wp_iconst (v := 1) rfl (by decide) ?_
              refine wp_iadd rfl ?_
              refine st_iald rfl (e0) (nI_add _ 1) (by omega) (by first | decide | omega) (ex _) ?_
              refine wp_aload_n rfl rfl ?_
              refine wp_iload_n rfl rfl ?_
              refine wp_iconst (v := 2) rfl (by decide) ?_
              refine wp_iadd rfl ?_
              refine st_iald rfl (e0) (nI_add _ 2) (by omega) (by first | decide | omega) (ex _) ?_
              refine wp_if_eq (tgt := 199) rfl (by decide) ?_ ?_
              · intro h
                exact absurd h hz
              · intro _
                refine wp_iconst (v := 1) rfl (by decide) ?_
                refine wp_goto (tgt := 200) rfl (by decide) ?_
                refine wp_V2 rfl mL_law_30 (eY) (Nat.le_of_ble_eq_true rfl) (hc) ?_
                rintro _ M2 ⟨rfl, hFE⟩
                refine wp_icmp_eq (tgt := 583) rfl (by decide) ?_ ?_
                · intro _
                  exact next M2 hFE
                · intro h
                  exact absurd rfl h
        · refine wp_tabIn (off := 165) (tgt := 208) rfl (by decide) (by decide) rfl (by decide) ?_
          obtain ⟨Q1, hc1, hc2⟩ := op_change (X := X) (x := xs (1 + 10 * q + 1)) (y := xs (1 + 10 * q + 2)) hFu (by omega)
          refine wp_aload_n rfl rfl ?_
          refine wp_aload_n rfl rfl ?_
          refine wp_iload_n rfl rfl ?_
          refine wp_iconst (v := 1) rfl (by decide) ?_
          refine wp_iadd rfl ?_
          refine st_iald rfl (k0) (nI_add _ 1) (by omega) (by first | decide | omega) (hx _) ?_
          refine wp_aload_n rfl rfl ?_
          refine wp_iload_n rfl rfl ?_
          refine wp_iconst (v := 2) rfl (by decide) ?_
          refine wp_iadd rfl ?_
          refine st_iald rfl (k0) (nI_add _ 2) (by omega) (by first | decide | omega) (hx _) ?_
          refine wp_V2 rfl mL_law_31 (k1) (Nat.le_of_ble_eq_true rfl) (hc1) ?_
          rintro rv1 ⟨K1, z1, kd1, d1, r1⟩ h1
          obtain ⟨⟨e0, ex, e1, eY⟩, v, rfl, hc⟩ := hc2 _ _ h1
          refine wp_aload_n rfl rfl ?_
          refine wp_aload_n rfl rfl ?_
          refine wp_iload_n rfl rfl ?_
          refine wp_iconst (v := 1) rfl (by decide) ?_
          refine wp_iadd rfl ?_
          refine st_iald rfl (e0) (nI_add _ 1) (by omega) (by first | decide | omega) (ex _) ?_
          refine wp_aload_n rfl rfl ?_
          refine wp_iload_n rfl rfl ?_
          refine wp_iconst (v := 2) rfl (by decide) ?_
          refine wp_iadd rfl ?_
          refine st_iald rfl (e0) (nI_add _ 2) (by omega) (by first | decide | omega) (ex _) ?_
          refine wp_V2 rfl mL_law_35 (eY) (Nat.le_of_ble_eq_true rfl) (hc) ?_
          rintro _ M2 ⟨rfl, hFE⟩
          refine wp_icmp_eq (tgt := 583) rfl (by decide) ?_ ?_
          · intro _
            exact next M2 hFE
          · intro h
            exact absurd rfl h
        · refine wp_tabIn (off := 198) (tgt := 241) rfl (by decide) (by decide) rfl (by decide) ?_
          obtain ⟨Q1, hc1, hc2⟩ := op_order (X := X) (x := xs (1 + 10 * q + 1)) (cl := xs (1 + 10 * q + 2)) (nu := xs (1 + 10 * q + 3)) (ki := xs (1 + 10 * q + 4)) (a := xs (1 + 10 * q + 5)) (b := xs (1 + 10 * q + 6)) (e := xs (1 + 10 * q + 7)) (f := xs (1 + 10 * q + 8)) (y := xs (1 + 10 * q + 9)) hFu (by omega)
          refine wp_aload_n rfl rfl ?_
          refine wp_aload_n rfl rfl ?_
          refine wp_iload_n rfl rfl ?_
          refine wp_iconst (v := 1) rfl (by decide) ?_
          refine wp_iadd rfl ?_
          refine st_iald rfl (k0) (nI_add _ 1) (by omega) (by first | decide | omega) (hx _) ?_
          refine wp_aload_n rfl rfl ?_
          refine wp_iload_n rfl rfl ?_
          refine wp_iconst (v := 2) rfl (by decide) ?_
          refine wp_iadd rfl ?_
          refine st_iald rfl (k0) (nI_add _ 2) (by omega) (by first | decide | omega) (hx _) ?_
          refine wp_aload_n rfl rfl ?_
          refine wp_iload_n rfl rfl ?_
          refine wp_iconst (v := 3) rfl (by decide) ?_
          refine wp_iadd rfl ?_
          refine st_iald rfl (k0) (nI_add _ 3) (by omega) (by first | decide | omega) (hx _) ?_
          refine wp_aload_n rfl rfl ?_
          refine wp_iload_n rfl rfl ?_
          refine wp_iconst (v := 4) rfl (by decide) ?_
          refine wp_iadd rfl ?_
          refine st_iald rfl (k0) (nI_add _ 4) (by omega) (by first | decide | omega) (hx _) ?_
          refine wp_aload_n rfl rfl ?_
          refine wp_iload_n rfl rfl ?_
          refine wp_iconst (v := 5) rfl (by decide) ?_
          refine wp_iadd rfl ?_
          refine st_iald rfl (k0) (nI_add _ 5) (by omega) (by first | decide | omega) (hx _) ?_
          refine wp_aload_n rfl rfl ?_
          refine wp_iload_n rfl rfl ?_
          refine wp_bipush (v := 6) rfl (by decide) ?_
          refine wp_iadd rfl ?_
          refine st_iald rfl (k0) (nI_add _ 6) (by omega) (by first | decide | omega) (hx _) ?_
          refine wp_aload_n rfl rfl ?_
          refine wp_iload_n rfl rfl ?_
          refine wp_bipush (v := 7) rfl (by decide) ?_
          refine wp_iadd rfl ?_
          refine st_iald rfl (k0) (nI_add _ 7) (by omega) (by first | decide | omega) (hx _) ?_
          refine wp_aload_n rfl rfl ?_
          refine wp_iload_n rfl rfl ?_
          refine wp_bipush (v := 8) rfl (by decide) ?_
          refine wp_iadd rfl ?_
          refine st_iald rfl (k0) (nI_add _ 8) (by omega) (by first | decide | omega) (hx _) ?_
          refine wp_aload_n rfl rfl ?_
          refine wp_iload_n rfl rfl ?_
          refine wp_bipush (v := 9) rfl (by decide) ?_
          refine wp_iadd rfl ?_
          refine st_iald rfl (k0) (nI_add _ 9) (by omega) (by first | decide | omega) (hx _) ?_
          refine wp_V9 rfl mL_law_36 (k1) (Nat.le_of_ble_eq_true rfl) (hc1) ?_
          rintro rv1 ⟨K1, z1, kd1, d1, r1⟩ h1
          obtain ⟨⟨e0, ex, e1, eY⟩, v, rfl, hc⟩ := hc2 _ _ h1
          refine wp_aload_n rfl rfl ?_
          refine wp_aload_n rfl rfl ?_
          refine wp_iload_n rfl rfl ?_
          refine wp_iconst (v := 1) rfl (by decide) ?_
          refine wp_iadd rfl ?_
          refine st_iald rfl (e0) (nI_add _ 1) (by omega) (by first | decide | omega) (ex _) ?_
          refine wp_aload_n rfl rfl ?_
          refine wp_iload_n rfl rfl ?_
          refine wp_iconst (v := 2) rfl (by decide) ?_
          refine wp_iadd rfl ?_
          refine st_iald rfl (e0) (nI_add _ 2) (by omega) (by first | decide | omega) (ex _) ?_
          refine wp_aload_n rfl rfl ?_
          refine wp_iload_n rfl rfl ?_
          refine wp_iconst (v := 3) rfl (by decide) ?_
          refine wp_iadd rfl ?_
          refine st_iald rfl (e0) (nI_add _ 3) (by omega) (by first | decide | omega) (ex _) ?_
          refine wp_aload_n rfl rfl ?_
          refine wp_iload_n rfl rfl ?_
          refine wp_iconst (v := 4) rfl (by decide) ?_
          refine wp_iadd rfl ?_
          refine st_iald rfl (e0) (nI_add _ 4) (by omega) (by first | decide | omega) (ex _) ?_
          refine wp_aload_n rfl rfl ?_
          refine wp_iload_n rfl rfl ?_
          refine wp_iconst (v := 5) rfl (by decide) ?_
          refine wp_iadd rfl ?_
          refine st_iald rfl (e0) (nI_add _ 5) (by omega) (by first | decide | omega) (ex _) ?_
          refine wp_aload_n rfl rfl ?_
          refine wp_iload_n rfl rfl ?_
          refine wp_bipush (v := 6) rfl (by decide) ?_
          refine wp_iadd rfl ?_
          refine st_iald rfl (e0) (nI_add _ 6) (by omega) (by first | decide | omega) (ex _) ?_
          refine wp_aload_n rfl rfl ?_
          refine wp_iload_n rfl rfl ?_
          refine wp_bipush (v := 7) rfl (by decide) ?_
          refine wp_iadd rfl ?_
          refine st_iald rfl (e0) (nI_add _ 7) (by omega) (by first | decide | omega) (ex _) ?_
          refine wp_aload_n rfl rfl ?_
          refine wp_iload_n rfl rfl ?_
          refine wp_bipush (v := 8) rfl (by decide) ?_
          refine wp_iadd rfl ?_
          refine st_iald rfl (e0) (nI_add _ 8) (by omega) (by first | decide | omega) (ex _) ?_
          refine wp_aload_n rfl rfl ?_
          refine wp_iload_n rfl rfl ?_
          refine wp_bipush (v := 9) rfl (by decide) ?_
          refine wp_iadd rfl ?_
          refine st_iald rfl (e0) (nI_add _ 9) (by omega) (by first | decide | omega) (ex _) ?_
          refine wp_V9 rfl mL_law_40 (eY) (Nat.le_of_ble_eq_true rfl) (hc) ?_
          rintro _ M2 ⟨rfl, hFE⟩
          refine wp_icmp_eq (tgt := 583) rfl (by decide) ?_ ?_
          · intro _
            exact next M2 hFE
          · intro h
            exact absurd rfl h
        · refine wp_tabIn (off := 309) (tgt := 352) rfl (by decide) (by decide) rfl (by decide) ?_
          obtain ⟨Q1, hc1, hc2⟩ := op_told (X := X) (x := xs (1 + 10 * q + 1)) (y := xs (1 + 10 * q + 2)) hFu
          refine wp_aload_n rfl rfl ?_
          refine wp_aload_n rfl rfl ?_
          refine wp_iload_n rfl rfl ?_
          refine wp_iconst (v := 1) rfl (by decide) ?_
          refine wp_iadd rfl ?_
          refine st_iald rfl (k0) (nI_add _ 1) (by omega) (by first | decide | omega) (hx _) ?_
          refine wp_aload_n rfl rfl ?_
          refine wp_iload_n rfl rfl ?_
          refine wp_iconst (v := 2) rfl (by decide) ?_
          refine wp_iadd rfl ?_
          refine st_iald rfl (k0) (nI_add _ 2) (by omega) (by first | decide | omega) (hx _) ?_
          refine wp_V2 rfl mL_law_41 (k1) (Nat.le_of_ble_eq_true rfl) (hc1) ?_
          rintro rv1 ⟨K1, z1, kd1, d1, r1⟩ h1
          obtain ⟨⟨e0, ex, e1, eY⟩, v, rfl, hc⟩ := hc2 _ _ h1
          refine wp_aload_n rfl rfl ?_
          refine wp_aload_n rfl rfl ?_
          refine wp_iload_n rfl rfl ?_
          refine wp_iconst (v := 1) rfl (by decide) ?_
          refine wp_iadd rfl ?_
          refine st_iald rfl (e0) (nI_add _ 1) (by omega) (by first | decide | omega) (ex _) ?_
          refine wp_aload_n rfl rfl ?_
          refine wp_iload_n rfl rfl ?_
          refine wp_iconst (v := 2) rfl (by decide) ?_
          refine wp_iadd rfl ?_
          refine st_iald rfl (e0) (nI_add _ 2) (by omega) (by first | decide | omega) (ex _) ?_
          refine wp_V2 rfl mL_law_44 (eY) (Nat.le_of_ble_eq_true rfl) (hc) ?_
          rintro _ M2 ⟨rfl, hFE⟩
          refine wp_icmp_eq (tgt := 583) rfl (by decide) ?_ ?_
          · intro _
            exact next M2 hFE
          · intro h
            exact absurd rfl h
        · refine wp_tabIn (off := 342) (tgt := 385) rfl (by decide) (by decide) rfl (by decide) ?_
          obtain ⟨Q1, hc1, hc2⟩ := op_log (X := X) (x := xs (1 + 10 * q + 1)) (y := xs (1 + 10 * q + 2)) (w := xs (1 + 10 * q + 3)) hFu
          refine wp_aload_n rfl rfl ?_
          refine wp_aload_n rfl rfl ?_
          refine wp_iload_n rfl rfl ?_
          refine wp_iconst (v := 1) rfl (by decide) ?_
          refine wp_iadd rfl ?_
          refine st_iald rfl (k0) (nI_add _ 1) (by omega) (by first | decide | omega) (hx _) ?_
          refine wp_aload_n rfl rfl ?_
          refine wp_iload_n rfl rfl ?_
          refine wp_iconst (v := 2) rfl (by decide) ?_
          refine wp_iadd rfl ?_
          refine st_iald rfl (k0) (nI_add _ 2) (by omega) (by first | decide | omega) (hx _) ?_
          refine wp_aload_n rfl rfl ?_
          refine wp_iload_n rfl rfl ?_
          refine wp_iconst (v := 3) rfl (by decide) ?_
          refine wp_iadd rfl ?_
          refine st_iald rfl (k0) (nI_add _ 3) (by omega) (by first | decide | omega) (hx _) ?_
          refine wp_V3 rfl mL_law_45 (k1) (Nat.le_of_ble_eq_true rfl) (hc1) ?_
          rintro rv1 ⟨K1, z1, kd1, d1, r1⟩ h1
          obtain ⟨⟨e0, ex, e1, eY⟩, v, rfl, hc⟩ := hc2 _ _ h1
          refine wp_aload_n rfl rfl ?_
          refine wp_aload_n rfl rfl ?_
          refine wp_iload_n rfl rfl ?_
          refine wp_iconst (v := 1) rfl (by decide) ?_
          refine wp_iadd rfl ?_
          refine st_iald rfl (e0) (nI_add _ 1) (by omega) (by first | decide | omega) (ex _) ?_
          refine wp_aload_n rfl rfl ?_
          refine wp_iload_n rfl rfl ?_
          refine wp_iconst (v := 2) rfl (by decide) ?_
          refine wp_iadd rfl ?_
          refine st_iald rfl (e0) (nI_add _ 2) (by omega) (by first | decide | omega) (ex _) ?_
          refine wp_aload_n rfl rfl ?_
          refine wp_iload_n rfl rfl ?_
          refine wp_iconst (v := 3) rfl (by decide) ?_
          refine wp_iadd rfl ?_
          refine st_iald rfl (e0) (nI_add _ 3) (by omega) (by first | decide | omega) (ex _) ?_
          refine wp_V3 rfl mL_law_49 (eY) (Nat.le_of_ble_eq_true rfl) (hc) ?_
          rintro _ M2 ⟨rfl, hFE⟩
          refine wp_icmp_eq (tgt := 583) rfl (by decide) ?_ ?_
          · intro _
            exact next M2 hFE
          · intro h
            exact absurd rfl h
        · refine wp_tabIn (off := 385) (tgt := 428) rfl (by decide) (by decide) rfl (by decide) ?_
          obtain ⟨Q1, hc1, hc2⟩ := op_task (X := X) (x := xs (1 + 10 * q + 1)) (y := xs (1 + 10 * q + 2)) (w := xs (1 + 10 * q + 3)) hFu
          refine wp_aload_n rfl rfl ?_
          refine wp_aload_n rfl rfl ?_
          refine wp_iload_n rfl rfl ?_
          refine wp_iconst (v := 1) rfl (by decide) ?_
          refine wp_iadd rfl ?_
          refine st_iald rfl (k0) (nI_add _ 1) (by omega) (by first | decide | omega) (hx _) ?_
          refine wp_aload_n rfl rfl ?_
          refine wp_iload_n rfl rfl ?_
          refine wp_iconst (v := 2) rfl (by decide) ?_
          refine wp_iadd rfl ?_
          refine st_iald rfl (k0) (nI_add _ 2) (by omega) (by first | decide | omega) (hx _) ?_
          refine wp_aload_n rfl rfl ?_
          refine wp_iload_n rfl rfl ?_
          refine wp_iconst (v := 3) rfl (by decide) ?_
          refine wp_iadd rfl ?_
          refine st_iald rfl (k0) (nI_add _ 3) (by omega) (by first | decide | omega) (hx _) ?_
          refine wp_V3 rfl mL_law_50 (k1) (Nat.le_of_ble_eq_true rfl) (hc1) ?_
          rintro rv1 ⟨K1, z1, kd1, d1, r1⟩ h1
          obtain ⟨⟨e0, ex, e1, eY⟩, v, rfl, hc⟩ := hc2 _ _ h1
          refine wp_aload_n rfl rfl ?_
          refine wp_aload_n rfl rfl ?_
          refine wp_iload_n rfl rfl ?_
          refine wp_iconst (v := 1) rfl (by decide) ?_
          refine wp_iadd rfl ?_
          refine st_iald rfl (e0) (nI_add _ 1) (by omega) (by first | decide | omega) (ex _) ?_
          refine wp_aload_n rfl rfl ?_
          refine wp_iload_n rfl rfl ?_
          refine wp_iconst (v := 2) rfl (by decide) ?_
          refine wp_iadd rfl ?_
          refine st_iald rfl (e0) (nI_add _ 2) (by omega) (by first | decide | omega) (ex _) ?_
          refine wp_aload_n rfl rfl ?_
          refine wp_iload_n rfl rfl ?_
          refine wp_iconst (v := 3) rfl (by decide) ?_
          refine wp_iadd rfl ?_
          refine st_iald rfl (e0) (nI_add _ 3) (by omega) (by first | decide | omega) (ex _) ?_
          refine wp_V3 rfl mL_law_53 (eY) (Nat.le_of_ble_eq_true rfl) (hc) ?_
          rintro _ M2 ⟨rfl, hFE⟩
          refine wp_icmp_eq (tgt := 583) rfl (by decide) ?_ ?_
          · intro _
            exact next M2 hFE
          · intro h
            exact absurd rfl h
        · refine wp_tabIn (off := 428) (tgt := 471) rfl (by decide) (by decide) rfl (by decide) ?_
          obtain ⟨Q1, hc1, hc2⟩ := op_worker (X := X) (x := xs (1 + 10 * q + 1)) (y := xs (1 + 10 * q + 2)) (w := xs (1 + 10 * q + 3)) hFu
          refine wp_aload_n rfl rfl ?_
          refine wp_aload_n rfl rfl ?_
          refine wp_iload_n rfl rfl ?_
          refine wp_iconst (v := 1) rfl (by decide) ?_
          refine wp_iadd rfl ?_
          refine st_iald rfl (k0) (nI_add _ 1) (by omega) (by first | decide | omega) (hx _) ?_
          refine wp_aload_n rfl rfl ?_
          refine wp_iload_n rfl rfl ?_
          refine wp_iconst (v := 2) rfl (by decide) ?_
          refine wp_iadd rfl ?_
          refine st_iald rfl (k0) (nI_add _ 2) (by omega) (by first | decide | omega) (hx _) ?_
          refine wp_aload_n rfl rfl ?_
          refine wp_iload_n rfl rfl ?_
          refine wp_iconst (v := 3) rfl (by decide) ?_
          refine wp_iadd rfl ?_
          refine st_iald rfl (k0) (nI_add _ 3) (by omega) (by first | decide | omega) (hx _) ?_
          refine wp_V3 rfl mL_law_54 (k1) (Nat.le_of_ble_eq_true rfl) (hc1) ?_
          rintro rv1 ⟨K1, z1, kd1, d1, r1⟩ h1
          obtain ⟨⟨e0, ex, e1, eY⟩, v, rfl, hc⟩ := hc2 _ _ h1
          refine wp_aload_n rfl rfl ?_
          refine wp_aload_n rfl rfl ?_
          refine wp_iload_n rfl rfl ?_
          refine wp_iconst (v := 1) rfl (by decide) ?_
          refine wp_iadd rfl ?_
          refine st_iald rfl (e0) (nI_add _ 1) (by omega) (by first | decide | omega) (ex _) ?_
          refine wp_aload_n rfl rfl ?_
          refine wp_iload_n rfl rfl ?_
          refine wp_iconst (v := 2) rfl (by decide) ?_
          refine wp_iadd rfl ?_
          refine st_iald rfl (e0) (nI_add _ 2) (by omega) (by first | decide | omega) (ex _) ?_
          refine wp_aload_n rfl rfl ?_
          refine wp_iload_n rfl rfl ?_
          refine wp_iconst (v := 3) rfl (by decide) ?_
          refine wp_iadd rfl ?_
          refine st_iald rfl (e0) (nI_add _ 3) (by omega) (by first | decide | omega) (ex _) ?_
          refine wp_V3 rfl mL_law_57 (eY) (Nat.le_of_ble_eq_true rfl) (hc) ?_
          rintro _ M2 ⟨rfl, hFE⟩
          refine wp_icmp_eq (tgt := 583) rfl (by decide) ?_ ?_
          · intro _
            exact next M2 hFE
          · intro h
            exact absurd rfl h
        · refine wp_tabIn (off := 471) (tgt := 514) rfl (by decide) (by decide) rfl (by decide) ?_
          obtain ⟨Q1, hc1, hc2⟩ := op_used (X := X) (x := xs (1 + 10 * q + 1)) (y := xs (1 + 10 * q + 2)) hFu
          refine wp_aload_n rfl rfl ?_
          refine wp_aload_n rfl rfl ?_
          refine wp_iload_n rfl rfl ?_
          refine wp_iconst (v := 1) rfl (by decide) ?_
          refine wp_iadd rfl ?_
          refine st_iald rfl (k0) (nI_add _ 1) (by omega) (by first | decide | omega) (hx _) ?_
          refine wp_aload_n rfl rfl ?_
          refine wp_iload_n rfl rfl ?_
          refine wp_iconst (v := 2) rfl (by decide) ?_
          refine wp_iadd rfl ?_
          refine st_iald rfl (k0) (nI_add _ 2) (by omega) (by first | decide | omega) (hx _) ?_
          refine wp_V2 rfl mL_law_58 (k1) (Nat.le_of_ble_eq_true rfl) (hc1) ?_
          rintro rv1 ⟨K1, z1, kd1, d1, r1⟩ h1
          obtain ⟨⟨e0, ex, e1, eY⟩, v, rfl, hc⟩ := hc2 _ _ h1
          refine wp_aload_n rfl rfl ?_
          refine wp_aload_n rfl rfl ?_
          refine wp_iload_n rfl rfl ?_
          refine wp_iconst (v := 1) rfl (by decide) ?_
          refine wp_iadd rfl ?_
          refine st_iald rfl (e0) (nI_add _ 1) (by omega) (by first | decide | omega) (ex _) ?_
          refine wp_aload_n rfl rfl ?_
          refine wp_iload_n rfl rfl ?_
          refine wp_iconst (v := 2) rfl (by decide) ?_
          refine wp_iadd rfl ?_
          refine st_iald rfl (e0) (nI_add _ 2) (by omega) (by first | decide | omega) (ex _) ?_
          refine wp_V2 rfl mL_law_61 (eY) (Nat.le_of_ble_eq_true rfl) (hc) ?_
          rintro _ M2 ⟨rfl, hFE⟩
          refine wp_icmp_eq (tgt := 583) rfl (by decide) ?_ ?_
          · intro _
            exact next M2 hFE
          · intro h
            exact absurd rfl h
        · refine wp_tabIn (off := 504) (tgt := 547) rfl (by decide) (by decide) rfl (by decide) ?_
          obtain ⟨Q1, hc1, hc2⟩ := op_agree (X := X) hFu (by omega)
          refine wp_aload_n rfl rfl ?_
          refine wp_V0 rfl mL_law_62 (k1) (Nat.le_of_ble_eq_true rfl) (hc1) ?_
          rintro rv1 ⟨K1, z1, kd1, d1, r1⟩ h1
          obtain ⟨⟨e0, ex, e1, eY⟩, v, rfl, hc⟩ := hc2 _ _ h1
          refine wp_aload_n rfl rfl ?_
          refine wp_V0 rfl mL_law_66 (eY) (Nat.le_of_ble_eq_true rfl) (hc) ?_
          rintro _ M2 ⟨rfl, hFE⟩
          refine wp_icmp_eq (tgt := 583) rfl (by decide) ?_ ?_
          · intro _
            exact next M2 hFE
          · intro h
            exact absurd rfl h
        · refine wp_tabIn (off := 517) (tgt := 560) rfl (by decide) (by decide) rfl (by decide) ?_
          obtain ⟨Q1, hc1, hc2⟩ := op_count (X := X) (x := xs (1 + 10 * q + 1)) hFu
          refine wp_aload_n rfl rfl ?_
          refine wp_aload_n rfl rfl ?_
          refine wp_iload_n rfl rfl ?_
          refine wp_iconst (v := 1) rfl (by decide) ?_
          refine wp_iadd rfl ?_
          refine st_iald rfl (k0) (nI_add _ 1) (by omega) (by first | decide | omega) (hx _) ?_
          refine wp_V1 rfl mL_law_67 (k1) (Nat.le_of_ble_eq_true rfl) (hc1) ?_
          rintro rv1 ⟨K1, z1, kd1, d1, r1⟩ h1
          obtain ⟨⟨e0, ex, e1, eY⟩, v, rfl, hc⟩ := hc2 _ _ h1
          refine wp_aload_n rfl rfl ?_
          refine wp_aload_n rfl rfl ?_
          refine wp_iload_n rfl rfl ?_
          refine wp_iconst (v := 1) rfl (by decide) ?_
          refine wp_iadd rfl ?_
          refine st_iald rfl (e0) (nI_add _ 1) (by omega) (by first | decide | omega) (ex _) ?_
          refine wp_V1 rfl mL_law_71 (eY) (Nat.le_of_ble_eq_true rfl) (hc) ?_
          rintro _ M2 ⟨rfl, hFE⟩
          refine wp_icmp_eq (tgt := 583) rfl (by decide) ?_ ?_
          · intro _
            exact next M2 hFE
          · intro h
            exact absurd rfl h
      · refine wp_tabOut (tgt := 583) rfl hout (by decide) ?_
        exact next _ ⟨A, an, Fu_q hFu⟩
  have loop : ∀ (N : Nat), (N = 3 ∨ N = 5) → ∀ fuel q M, q + fuel = 600 → FuE N q n xs M → Wp X kL_law 1 0 28 [some (.inr (some 0)), some (.inr (some 1)), some (.inr (some (8 + 30 * N))), some (.inl (nI (1 + 10 * q)))] [] M Q := by
    intro N hN fuel
    induction fuel with
    | zero => intro q M hq h; exact step N hN q M (by omega) h (fun M' hlt => absurd hlt (by omega))
    | succ fuel ih => intro q M hq h; exact step N hN q M (by omega) h (fun M' _ h' => ih (q + 1) M' (by omega) h')
  have hF0 : Fr 1 (fun p => if p = 0 then some (.inr (.inl (.int, n))) else none) (fun p j => if p = 0 then xs j else 0) (fun _ _ => none) := fun p hp => ⟨if_neg (by omega), fun j => if_neg (by omega), fun j => rfl⟩
  show Wp X kL_law 1 0 0 (h_en kL_law [.inr (some 0)]) [] (1, 0, (fun p => if p = 0 then some (.inr (.inl (.int, n))) else none), (fun p j => if p = 0 then xs j else 0), fun _ _ => none) Q
  have kz : (fun p => if p = 0 then some (.inr (.inl (.int, n))) else none : Nat → Option hK) 0 = some (.inr (.inl (.int, n))) := rfl
  have dz0 : ∀ j, (fun p j => if p = 0 then xs j else 0 : Nat → Nat → Int32) 0 j = xs j := fun j => rfl
  generalize (fun p => if p = 0 then some (.inr (.inl (.int, n))) else none : Nat → Option hK) = KD at hF0 kz ⊢
  generalize (fun p j => if p = 0 then xs j else 0 : Nat → Nat → Int32) = DD at hF0 dz0 ⊢
  generalize (fun _ _ => none : Nat → Nat → Option Nat) = RR at hF0 ⊢
  have F1 := Fr_new (v := some (.inl 5)) hF0
  have kz1 : hu1 KD 1 (some (.inl 5)) 0 = some (.inr (.inl (.int, n))) := (hu1_n (by omega)).trans kz
  refine st_newF rfl nL_7 (hF0) ?_
  refine wp_dup rfl ?_
  refine wp_aload_n rfl rfl ?_
  refine wp_iconst (v := 0) rfl (by decide) ?_
  refine wp_S2 rfl mL_law_9 (Nat.le_of_ble_eq_true rfl) (c_cell kz1 hn) ?_
  rintro _ _ ⟨rfl, rfl⟩
  have hN : ∀ y : Int32, (if y = 5 then 5 else 3 : Nat) = 3 ∨ (if y = 5 then 5 else 3 : Nat) = 5 := fun y => by split <;> omega
  have hN := hN (if 0 < n then DD 0 0 else 0)
  have k15 : hu1 KD 1 (some (.inl 5)) 1 = some (.inl 5) := hu1_s
  refine wp_I1 rfl mL_law_15 (k15) (Nat.le_of_ble_eq_true rfl) (c_init5 (N := if (if 0 < n then DD 0 0 else 0) = 5 then 5 else 3) F1 k15 (fun j => (hF0 1 (Nat.le_refl _)).2.1 j) rfl) ?_
  rintro _ _ ⟨rfl, z5, kd5, d5, r5, rfl, hz5, hF5, hS5, k75, hr5, d105, d1z5, dz5, dm5, k05, hx5⟩
  have hz5' : z5 ≤ 3006 := hz5
  have ex0 : (if 0 < n then d5 0 0 else 0) = if 0 < n then DD 0 0 else 0 := by rw [hx5 0]
  generalize hNN : (if (if 0 < n then DD 0 0 else 0) = 5 then 5 else 3 : Nat) = N at *
  have k06 : hu1 kd5 (8 + 30 * N) (some (.inl 6)) 0 = some (.inr (.inl (.int, n))) := (hu1_n (by omega)).trans (k05.trans kz1)
  have F6 := Fr_new (v := some (.inl 6)) hF5
  have k66 : hu1 kd5 (8 + 30 * N) (some (.inl 6)) (8 + 30 * N) = some (.inl 6) := hu1_s
  refine wp_astore_n rfl (by decide) ?_
  refine st_newF rfl nL_18 (hF5) ?_
  refine wp_dup rfl ?_
  refine wp_aload_n rfl rfl ?_
  refine wp_iconst (v := 0) rfl (by decide) ?_
  refine wp_S2 rfl mL_law_9 (Nat.le_of_ble_eq_true rfl) (c_cell k06 hn) ?_
  rintro _ _ ⟨rfl, rfl⟩
  rw [ex0]
  refine wp_I1 rfl mL_law_20 (k66) (Nat.le_of_ble_eq_true rfl) (r_init (N := N) F6 k66 (by omega) hNN.symm) ?_
  rintro _ _ ⟨rfl, kd6, r6, rfl, hF6, hk6, hr6, hrs6⟩
  refine wp_astore_n rfl (by decide) ?_
  refine wp_iconst (v := 1) rfl (by decide) ?_
  refine wp_istore_n rfl (by decide) ?_
  have hFu := Fu_0 (N := N) (n := n) (z := z5 + 26 + 14628) (xs := xs) (kd := kd5) (kd' := kd6) (d := d5) (r := r5) (r' := r6) (by omega) hF5 hS5 k75 hr5 d105 d1z5 dz5 dm5 (k05.trans kz1) (fun j => (hx5 j).trans (dz0 j)) hF6 (fun q hq => (hk6 q (by omega)).trans (hu1_n (by omega))) hr6 hrs6
  exact loop N hN 600 0 _ (by omega) ⟨A0, 0, hFu⟩
