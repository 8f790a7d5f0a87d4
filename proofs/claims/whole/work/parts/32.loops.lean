/-! THE CLASS'S ROUNDS OF MESSAGES -/
section LOOPS
variable {X : hX} {K z : Nat} {kd : Nat → Option hK} {d d0 : Nat → Nat → Int32} {r r0 : Nat → Nat → Option Nat} {N m j : Nat} {A : PS}
theorem rcB_eq (hW : cW N kd d0 r0 A d r) {a b : Nat} (ha : a < N) (hb : b < N) : rcB N d a b ↔ rcB N d0 a b := by
  have e1 : ∀ i, i < N → d (8 + 30 * i) 8 = d0 (8 + 30 * i) 8 := fun i hi => hW.1 _ _ (by omega) (fun i' _ => by omega)
  have e2 : ∀ i, d 2 i = d0 2 i := fun i => hW.1 _ _ (by omega) (fun i' _ => by omega)
  simp only [rcB, e1 a ha, e1 b hb, e2]
theorem c_reachesP (hS : Sh N kd r0) (hW : cW N kd d0 r0 A d r) (hd : d0 1 0 = nI N) (hm : m < N) (hj : j < N) : Cl X kX5_reaches [.inr (some 1), .inl (nI m), .inl (nI j)] (K, z, kd, d, r) (fun rv M' => M' = (K, z, kd, d, r) ∧ ((rcB N d0 m j ∧ rv = some (.inl 1)) ∨ (¬ rcB N d0 m j ∧ rv = some (.inl 0)))) := by
  have hd' : d 1 0 = nI N := (hW.1 1 0 (by omega) (fun i _ => by omega)).trans hd
  refine (c_reaches (Sh_r hS hW.2.1) hd' hm hj).mono ?_
  rintro rv M' ⟨rfl, h⟩
  rw [rcB_eq hW hm hj] at h
  exact ⟨rfl, h⟩
theorem c_announce (hS : Sh N kd r0) (hd : d0 1 0 = nI N) (hm : m < N) : ∀ (A : PS) (d : Nat → Nat → Int32) (r : Nat → Nat → Option Nat), cW N kd d0 r0 A d r → pB A + pL A < 1000000 → Cl X kX5_announceView [.inr (some 1), .inl (nI m)] (K, z, kd, d, r) (fun rv M' => rv = none ∧ ∃ d' r', M' = (K, z, kd, d', r') ∧ cW N kd d0 r0 (pAn (rcB N d0 m) m N 0 A) d' r') := by
  intro A d r hW hb
  have hN5 : N = 3 ∨ N = 5 := hS.1
  refine h_ofWp oX5_announceView (by decide) (Nat.le_of_ble_eq_true rfl) ?_
  have loop : ∀ n j (A' : PS) d r, j + n = N → cW N kd d0 r0 A' d r → pB A' + pL A' < 1000000 → pAn (rcB N d0 m) m n j A' = pAn (rcB N d0 m) m N 0 A → Wp X kX5_announceView K z 2 [some (.inr (some 1)), some (.inl (nI m)), some (.inl (nI j))] [] (K, z, kd, d, r) (fun rv M' => rv = none ∧ ∃ d' r', M' = (K, z, kd, d', r') ∧ cW N kd d0 r0 (pAn (rcB N d0 m) m N 0 A) d' r') := by
    intro n
    induction n with
    | zero =>
      intro j A' d r hj hW hb he
      have k1 := hS.2.1
      have : j = N := by omega
      subst this
      refine wp_iload_n rfl rfl ?_
      refine wp_aload_n rfl rfl ?_
      refine st_getI rfl fX5_7 rfl (by assumption) ((hW.1 1 0 (by omega) (fun i _ => by omega)).trans hd) ?_
      refine wp_icmp_ge (tgt := 52) rfl (by decide) ?_ ?_
      · intro _
        refine wp_return rfl rfl ?_
        rw [← he]
        exact ⟨rfl, d, r, rfl, hW⟩
      · intro h
        exact absurd (nI_le (Nat.le_refl _) (by omega)) h
    | succ n ih =>
      intro j A' d r hj hW hb he
      have hjN : j < N := by omega
      obtain ⟨hN, k1, a1, a2, a3, k2, k3, b0, b1, k4, k5, k6, hmm⟩ := id (Sh_r hS hW.2.1)
      refine wp_iload_n rfl rfl ?_
      refine wp_aload_n rfl rfl ?_
      refine st_getI rfl fX5_7 rfl (by assumption) ((hW.1 1 0 (by omega) (fun i _ => by omega)).trans hd) ?_
      refine wp_icmp_ge (tgt := 52) rfl (by decide) ?_ ?_
      · intro h
        exact absurd h (nI_ge hjN (by omega))
      · intro _
        refine wp_aload_n rfl rfl ?_
        refine wp_iload_n rfl rfl ?_
        refine wp_iload_n rfl rfl ?_
        refine wp_V2 rfl mX5_announceView_175 (k1) (Nat.le_of_ble_eq_true rfl) (c_reachesP hS hW hd hm hjN) ?_
        rintro _ _ ⟨rfl, ⟨hr, rfl⟩ | ⟨hr, rfl⟩⟩
        · rw [show pAn (rcB N d0 m) m (n + 1) j A' = _ from cIf_t hr] at he
          refine wp_if_ne (tgt := 22) rfl (by decide) ?_ ?_
          · intro _
            refine wp_aload_n rfl rfl ?_
            refine wp_V0 rfl mX5_announceView_179 (k1) (Nat.le_of_ble_eq_true rfl) (c_bring hS hW hb) ?_
            rintro _ _ (⟨h0, rfl, rfl⟩ | ⟨h0, rfl, d1, rfl, hW1⟩)
            · rw [if_pos h0] at he
              refine wp_if_ne (tgt := 30) rfl (by decide) ?_ ?_
              · intro hc
                exact absurd rfl hc
              · intro _
                refine wp_return rfl rfl ?_
                rw [← he]
                exact ⟨rfl, d, r, rfl, hW⟩
            · rw [if_neg h0] at he
              refine wp_if_ne (tgt := 30) rfl (by decide) ?_ ?_
              · intro _
                refine wp_aload_n rfl rfl ?_
                refine st_getR rfl fX5_26 rfl (by assumption) (by assumption) ?_
                refine wp_iload_n rfl rfl ?_
                refine st_aald (t0 := 2) rfl (by assumption) rfl rfl (hjN) (by first | decide | omega) ((hmm j hjN).1) ?_
                refine wp_aload_n rfl rfl ?_
                refine st_getR rfl fX5_26 rfl (by assumption) (by assumption) ?_
                refine wp_iload_n rfl rfl ?_
                refine st_aald (t0 := 2) rfl (by assumption) rfl rfl (hm) (by first | decide | omega) ((hmm m hm).1) ?_
                refine wp_V1 rfl mX5_announceView_192 ((hmm j hjN).2.1) (Nat.le_of_ble_eq_true rfl) (c_followP hS hW1 hm hjN (fun e => hr.1 e.symm)) ?_
                have hb1 : pB (pBr A') + pL (pBr A') < 1000000 := by show pB A' + 1 + (pL A' - 1) < 1000000; omega
                rintro _ _ (⟨hv, rfl, rfl⟩ | ⟨hv, rfl, d2, r2, rfl, hW2⟩)
                · rw [if_neg hv] at he
                  refine wp_pop rfl ?_
                  refine wp_inc rfl rfl (by decide) ?_
                  refine wp_goto (tgt := 2) rfl (by decide) ?_
                  exact ih (j + 1) _ _ _ (by omega) hW1 hb1 he
                · rw [if_pos hv] at he
                  refine wp_pop rfl ?_
                  refine wp_inc rfl rfl (by decide) ?_
                  refine wp_goto (tgt := 2) rfl (by decide) ?_
                  exact ih (j + 1) _ _ _ (by omega) hW2 hb1 he
              · intro hc
                exact absurd hc (by decide)
          · intro hc
            exact absurd hc (by decide)
        · rw [show pAn (rcB N d0 m) m (n + 1) j A' = _ from cIf_f hr] at he
          refine wp_if_ne (tgt := 22) rfl (by decide) ?_ ?_
          · intro hc
            exact absurd rfl hc
          · intro _
            refine wp_goto (tgt := 46) rfl (by decide) ?_
            refine wp_inc rfl rfl (by decide) ?_
            refine wp_goto (tgt := 2) rfl (by decide) ?_
            exact ih (j + 1) _ _ _ (by omega) hW hb he
  refine wp_iconst (v := 0) rfl (by decide) ?_
  refine wp_istore_n rfl (by decide) ?_
  exact loop N 0 A d r (by omega) hW hb rfl
/-- all of m's log is done -/
theorem cW_do (hS : Sh N kd r0) (hW : cW N kd d0 r0 A d r) (hm : m < N) : cW N kd d0 r0 (pDo A m) (hu d (8 + 30 * m) 7 (nI (pl A m))) r := by
  obtain ⟨h1, h2, h3, h4, h5, h6, h7, h8⟩ := id hW
  obtain ⟨a4, a5, a6, a7, b1, b2, b3, b4, b5⟩ := h4 m hm
  have hkm : kd (8 + 30 * m) = some (.inl 1) := (hS.2.2.2.2.2.2.2.2.2.2.2.2 m hm).2.1
  refine cW_set hS hW hm ?_ ?_ ?_ ?_ ?_ (fun _ _ _ => rfl) (h3 m hm) b1 b1 b3 b4 ?_
  · rw [hu_n (by omega)]; exact a4
  · rw [hu_n (by omega)]; exact a5
  · rw [hu_n (by omega)]; exact a6
  · rw [hu_s]
  · intro q i hq
    rw [hu_n (by omega)]
  · intro k hk i hi
    have hne2 : op r (8 + 30 * m) k ≠ 8 + 30 * m := fun hc => by
      have q1 := (h3 m hm k (by omega)).2
      rw [hc, hkm] at q1
      cases q1
    show hu _ _ _ _ (op r (8 + 30 * m) k) i = _
    rw [hu_n (by omega)]
    exact b5 k hk i hi
theorem c_spread (hS : Sh N kd r0) (hd : d0 1 0 = nI N) (hm : m < N) : ∀ (A : PS) (d : Nat → Nat → Int32) (r : Nat → Nat → Option Nat), cW N kd d0 r0 A d r → pB A + pL A < 1000000 → Cl X kX5_spreadLog [.inr (some 1), .inl (nI m)] (K, z, kd, d, r) (fun rv M' => rv = none ∧ ∃ d' r', M' = (K, z, kd, d', r') ∧ cW N kd d0 r0 (pSp N (rcB N d0 m) m N 0 A 1) d' r') := by
  intro A d r hW hb
  have hN5 : N = 3 ∨ N = 5 := hS.1
  refine h_ofWp oX5_spreadLog (by decide) (Nat.le_of_ble_eq_true rfl) ?_
  have loop : ∀ n j t (A' : PS) d r, j + n = N → t ≤ j + 1 → cW N kd d0 r0 A' d r → pB A' + pL A' < 1000000 → pSp N (rcB N d0 m) m n j A' t = pSp N (rcB N d0 m) m N 0 A 1 → Wp X kX5_spreadLog K z 12 [some (.inr (some 1)), some (.inl (nI m)), some (.inr (some (8 + 30 * m))), some (.inl (nI t)), some (.inl (nI j))] [] (K, z, kd, d, r) (fun rv M' => rv = none ∧ ∃ d' r', M' = (K, z, kd, d', r') ∧ cW N kd d0 r0 (pSp N (rcB N d0 m) m N 0 A 1) d' r') := by
    intro n
    induction n with
    | zero =>
      intro j t A' d r hj ht hW hb he
      have k1 := hS.2.1
      have : j = N := by omega
      subst this
      refine wp_iload rfl rfl ?_
      refine wp_aload_n rfl rfl ?_
      refine st_getI rfl fX5_7 rfl (by assumption) ((hW.1 1 0 (by omega) (fun i _ => by omega)).trans hd) ?_
      refine wp_icmp_ge (tgt := 92) rfl (by decide) ?_ ?_
      · intro _
        refine wp_return rfl rfl ?_
        rw [← he]
        exact ⟨rfl, d, r, rfl, hW⟩
      · intro h
        exact absurd (nI_le (Nat.le_refl _) (by omega)) h
    | succ n ih =>
      intro j t A' d r hj ht hW hb he
      have hjN : j < N := by omega
      obtain ⟨hN, k1, a1, a2, a3, k2, k3, b0, b1, k4, k5, k6, hmm⟩ := id (Sh_r hS hW.2.1)
      have km := (hmm m hm).2.1
      refine wp_iload rfl rfl ?_
      refine wp_aload_n rfl rfl ?_
      refine st_getI rfl fX5_7 rfl (by assumption) ((hW.1 1 0 (by omega) (fun i _ => by omega)).trans hd) ?_
      refine wp_icmp_ge (tgt := 92) rfl (by decide) ?_ ?_
      · intro h
        exact absurd h (nI_ge hjN (by omega))
      · intro _
        refine wp_aload_n rfl rfl ?_
        refine wp_iload_n rfl rfl ?_
        refine wp_iload rfl rfl ?_
        refine wp_V2 rfl mX5_spreadLog_175 (k1) (Nat.le_of_ble_eq_true rfl) (c_reachesP hS hW hd hm hjN) ?_
        rintro _ _ ⟨rfl, ⟨hr, rfl⟩ | ⟨hr, rfl⟩⟩
        · rw [show pSp N (rcB N d0 m) m (n + 1) j A' t = _ from cIf_t hr] at he
          refine wp_if_ne (tgt := 34) rfl (by decide) ?_ ?_
          · intro _
            refine wp_aload_n rfl rfl ?_
            refine wp_V0 rfl mX5_spreadLog_179 (k1) (Nat.le_of_ble_eq_true rfl) (c_bring hS hW hb) ?_
            rintro _ _ (⟨h0, rfl, rfl⟩ | ⟨h0, rfl, d1, rfl, hW1⟩)
            · rw [if_pos h0] at he
              refine wp_if_ne (tgt := 42) rfl (by decide) ?_ ?_
              · intro hc
                exact absurd rfl hc
              · intro _
                refine wp_return rfl rfl ?_
                rw [← he]
                exact ⟨rfl, d, r, rfl, hW⟩
            · rw [if_neg h0] at he
              have hb1 : pB (pBr A') + pL (pBr A') < 1000000 := by show pB A' + 1 + (pL A' - 1) < 1000000; omega
              refine wp_if_ne (tgt := 42) rfl (by decide) ?_ ?_
              · intro _
                refine wp_aload_n rfl rfl ?_
                refine st_getR rfl fX5_26 rfl (by assumption) (by assumption) ?_
                refine wp_iload rfl rfl ?_
                refine st_aald (t0 := 2) rfl (by assumption) rfl rfl (hjN) (by first | decide | omega) ((hmm j hjN).1) ?_
                refine wp_aload_n rfl rfl ?_
                refine wp_V1 rfl mX5_spreadLog_192 ((hmm j hjN).2.1) (Nat.le_of_ble_eq_true rfl) (c_followP hS hW1 hm hjN (fun e => hr.1 e.symm)) ?_
                rintro _ _ (⟨hv, rfl, rfl⟩ | ⟨hv, rfl, d2, r2, rfl, hW2⟩)
                · rw [if_neg hv] at he
                  refine wp_if_ne (tgt := 59) rfl (by decide) ?_ ?_
                  · intro hc
                    exact absurd rfl hc
                  · intro _
                    refine wp_goto (tgt := 86) rfl (by decide) ?_
                    refine wp_inc rfl rfl (by decide) ?_
                    refine wp_goto (tgt := 12) rfl (by decide) ?_
                    exact ih (j + 1) t _ _ _ (by omega) (by omega) hW1 hb1 he
                · rw [if_pos hv] at he
                  have hb2 : pB (pFo (pBr A') m j) + pL (pFo (pBr A') m j) < 1000000 := hb1
                  refine wp_if_ne (tgt := 59) rfl (by decide) ?_ ?_
                  · intro _
                    refine wp_aload_n rfl rfl ?_
                    refine wp_V0 rfl mX5_spreadLog_179 (k1) (Nat.le_of_ble_eq_true rfl) (c_bring hS hW2 hb2) ?_
                    rintro _ _ (⟨h02, rfl, rfl⟩ | ⟨h02, rfl, d3, rfl, hW3⟩)
                    · rw [if_pos h02] at he
                      refine wp_if_ne (tgt := 67) rfl (by decide) ?_ ?_
                      · intro hc
                        exact absurd rfl hc
                      · intro _
                        refine wp_return rfl rfl ?_
                        rw [← he]
                        exact ⟨rfl, d2, r2, rfl, hW2⟩
                    · rw [if_neg h02] at he
                      have hb3 : pB (pBr (pFo (pBr A') m j)) + pL (pBr (pFo (pBr A') m j)) < 1000000 := by
                        show pB (pFo (pBr A') m j) + 1 + (pL (pFo (pBr A') m j) - 1) < 1000000
                        omega
                      refine wp_if_ne (tgt := 67) rfl (by decide) ?_ ?_
                      · intro _
                        refine wp_inc rfl rfl (by decide) ?_
                        refine wp_aload_n rfl rfl ?_
                        refine wp_iload_n rfl rfl ?_
                        refine wp_V1 rfl mX5_spreadLog_172 (k1) (Nat.le_of_ble_eq_true rfl) (c_isMajority (n := N) k1 ((hW3.1 1 0 (by omega) (fun i _ => by omega)).trans hd) (by omega) (by omega)) ?_
                        rintro _ _ ⟨rfl, rfl⟩
                        by_cases hmaj : N < (t + 1) * 2
                        · rw [if_pos hmaj] at he ⊢
                          refine wp_if_eq (tgt := 86) rfl (by decide) ?_ ?_
                          · intro hc
                            exact absurd hc (by decide)
                          · intro _
                            refine wp_aload_n rfl rfl ?_
                            refine wp_aload_n rfl rfl ?_
                            refine st_getI rfl fX5_90 rfl (by assumption) ((hW3.2.2.2.1 m hm).2.2.1) ?_
                            refine st_putI rfl fX5_102 rfl rfl ⟨rfl, rfl⟩ (by assumption) ?_
                            refine wp_inc rfl rfl (by decide) ?_
                            refine wp_goto (tgt := 12) rfl (by decide) ?_
                            exact ih (j + 1) (t + 1) _ _ _ (by omega) (by omega) (cW_do hS hW3 hm) hb3 he
                        · rw [if_neg hmaj] at he ⊢
                          refine wp_if_eq (tgt := 86) rfl (by decide) ?_ ?_
                          · intro _
                            refine wp_inc rfl rfl (by decide) ?_
                            refine wp_goto (tgt := 12) rfl (by decide) ?_
                            exact ih (j + 1) (t + 1) _ _ _ (by omega) (by omega) hW3 hb3 he
                          · intro hc
                            exact absurd rfl hc
                      · intro hc
                        exact absurd hc (by decide)
                  · intro hc
                    exact absurd hc (by decide)
              · intro hc
                exact absurd hc (by decide)
          · intro hc
            exact absurd hc (by decide)
        · rw [show pSp N (rcB N d0 m) m (n + 1) j A' t = _ from cIf_f hr] at he
          refine wp_if_ne (tgt := 34) rfl (by decide) ?_ ?_
          · intro hc
            exact absurd rfl hc
          · intro _
            refine wp_goto (tgt := 86) rfl (by decide) ?_
            refine wp_inc rfl rfl (by decide) ?_
            refine wp_goto (tgt := 12) rfl (by decide) ?_
            exact ih (j + 1) t _ _ _ (by omega) (by omega) hW hb he
  obtain ⟨hN, k1, a1, a2, a3, k2, k3, b0, b1, k4, k5, k6, hmm⟩ := id (Sh_r hS hW.2.1)
  refine wp_aload_n rfl rfl ?_
  refine st_getR rfl fX5_26 rfl (by assumption) (by assumption) ?_
  refine wp_iload_n rfl rfl ?_
  refine st_aald (t0 := 2) rfl (by assumption) rfl rfl (hm) (by first | decide | omega) ((hmm m hm).1) ?_
  refine wp_astore_n rfl (by decide) ?_
  refine wp_iconst (v := 1) rfl (by decide) ?_
  refine wp_istore_n rfl (by decide) ?_
  refine wp_iconst (v := 0) rfl (by decide) ?_
  refine wp_istore rfl (by decide) ?_
  exact loop N 0 1 A d r (by omega) (by omega) hW hb rfl
end LOOPS
