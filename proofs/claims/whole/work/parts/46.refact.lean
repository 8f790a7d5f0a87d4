/-! THE REFERENCE'S SCHEDULER: any order, the replay of a log -/
theorem in_rg {x : Int32} {a b : Nat} (hb : b < 1000000) (ha : a < 1000000) : (nI a ≤ x ∧ x ≤ nI b) ↔ inR x a (b + 1) := by
  constructor
  · rintro ⟨h1, h2⟩
    rw [i_le, i_nI (by omega)] at h1 h2
    have h0 : ¬ x < 0 := by
      rw [i_lt, show (0 : Int32).toInt = 0 by decide]
      omega
    obtain ⟨j, hj, rfl⟩ := nI_of h0
    rw [i_nI (by omega)] at h1 h2
    exact ⟨j, by omega, by omega, rfl⟩
  · rintro ⟨j, h1, h2, rfl⟩
    exact ⟨nI_le h1 (by omega), nI_le (by omega) (by omega)⟩
theorem in_m1 {x : Int32} {n : Nat} (hn : n < 1000) : (-1 ≤ x ∧ x ≤ nI n - 1) ↔ (x = -1 ∨ inR x 0 n) := by
  have e1 : (nI n - 1).toInt = (n : Int) - 1 := by
    have := i_sub (a := nI n) (b := 1) (by rw [i_nI (by omega), show (1 : Int32).toInt = 1 by decide]; omega) (by rw [i_nI (by omega), show (1 : Int32).toInt = 1 by decide]; omega)
    rw [this, i_nI (by omega), show (1 : Int32).toInt = 1 by decide]
  have e2 : (-1 : Int32).toInt = -1 := by decide
  rw [i_le, i_le, e1, e2]
  constructor
  · rintro ⟨h1, h2⟩
    by_cases h0 : x < 0
    · rw [i_lt, show (0 : Int32).toInt = 0 by decide] at h0
      exact Or.inl (Int32.toInt_inj.mp (by rw [e2]; omega))
    · obtain ⟨j, hj, rfl⟩ := nI_of h0
      rw [i_nI (by omega)] at h2
      exact Or.inr ⟨j, Nat.zero_le _, by omega, rfl⟩
  · rintro (rfl | ⟨j, -, h2, rfl⟩)
    · rw [e2]; omega
    · rw [i_nI (by omega)]; omega
section RACT
variable {X : hX} {K z : Nat} {kd : Nat → Option hK} {d d0 : Nat → Nat → Int32} {r : Nat → Nat → Option Nat} {Y : Nat} {S : Sch} {x y a b c e : Int32}
theorem r_in {lo hi : Int32} {P : Prop} (h : (lo ≤ x ∧ x ≤ hi) ↔ P) : Cl X kX6_isIn [.inl x, .inl lo, .inl hi] (K, z, kd, d, r) (fun rv M' => M' = (K, z, kd, d, r) ∧ ((P ∧ rv = some (.inl 1)) ∨ (¬ P ∧ rv = some (.inl 0)))) := by
  refine c_isIn.mono ?_
  rintro rv M' ⟨rfl, rfl⟩
  refine ⟨rfl, ?_⟩
  by_cases hc : lo ≤ x ∧ x ≤ hi
  · rw [if_pos hc]
    exact Or.inl ⟨h.mp hc, rfl⟩
  · rw [if_neg hc]
    exact Or.inr ⟨fun q => hc (h.mpr q), rfl⟩
theorem r_come (hS : rs kd r Y) (hR : rS d Y S) (hF : sWf S) : Cl X kX6_come [.inr (some Y), .inl a, .inl b, .inl c, .inl e] (K, z, kd, d, r) (rPs K z kd r d Y (aTask S a b c e)) := by
  obtain ⟨wc, tc, quo, cap, g, bd⟩ := S
  obtain ⟨k0, r2, r3, r4, r5, r6, r7, r8, r12, r13, r15, r17, r18, r19, r20, r21, r22, r23, r24, r25, k1, k2, k3, k4, k5, k6, k7, k8, k9, k10, k11, k12, k13, k14, k15, k16, k17, k18, k19, hY⟩ := id hS
  have hwc : wc ≤ 6 := hF.1.1
  have htc : tc ≤ 20 := hF.1.2.1
  have e16 : d Y 16 = nI tc := hR.2.1
  refine h_ofWp oX6_come (by decide) (Nat.le_of_ble_eq_true rfl) ?_
  generalize hQ : rPs K z kd r d Y (aTask (wc, tc, quo, cap, g, bd) a b c e) = Q
  have no : ¬ ((inR a 0 4 ∧ inR b 1 21 ∧ inR c 0 4 ∧ (e = -1 ∨ inR e 0 tc)) ∧ tc < 20) → Wp X kX6_come K z 56 [some (.inr (some Y)), some (.inl a), some (.inl b), some (.inl c), some (.inl e), none] [] (K, z, kd, d, r) Q := by
    intro h
    refine wp_iconst (v := 0) rfl (by decide) ?_
    refine wp_istore rfl (by decide) ?_
    refine wp_iload rfl rfl ?_
    refine wp_if_ne (tgt := 66) rfl (by decide) ?_ ?_
    · intro hc
      exact absurd rfl hc
    · intro _
      refine wp_iconst (v := -1) rfl (by decide) ?_
      refine wp_ireturn rfl .int rfl rfl ?_
      rw [← hQ, aTask, cIf_f h]
      exact ⟨rfl, d, rfl, rFr_refl _ _, hR⟩
  refine wp_iload_n rfl rfl ?_
  refine wp_iconst (v := 0) rfl (by decide) ?_
  refine wp_iconst (v := 3) rfl (by decide) ?_
  refine wp_S3 rfl mX6_come_89 (Nat.le_of_ble_eq_true rfl) (r_in (in_rg (a := 0) (b := 3) (by omega) (by omega))) ?_
  rintro _ _ ⟨rfl, ⟨ha, rfl⟩ | ⟨ha, rfl⟩⟩
  rotate_left
  · refine wp_if_eq (tgt := 56) rfl (by decide) ?_ ?_
    · intro _
      exact no (fun q => ha q.1.1)
    · intro h
      exact absurd rfl h
  refine wp_if_eq (tgt := 56) rfl (by decide) ?_ ?_
  · intro h
    exact absurd h (by decide)
  · intro _
    refine wp_iload_n rfl rfl ?_
    refine wp_iconst (v := 1) rfl (by decide) ?_
    refine wp_bipush (v := 20) rfl (by decide) ?_
    refine wp_S3 rfl mX6_come_89 (Nat.le_of_ble_eq_true rfl) (r_in (in_rg (a := 1) (b := 20) (by omega) (by omega))) ?_
    rintro _ _ ⟨rfl, ⟨hb, rfl⟩ | ⟨hb, rfl⟩⟩
    rotate_left
    · refine wp_if_eq (tgt := 56) rfl (by decide) ?_ ?_
      · intro _
        exact no (fun q => hb q.1.2.1)
      · intro h
        exact absurd rfl h
    refine wp_if_eq (tgt := 56) rfl (by decide) ?_ ?_
    · intro h
      exact absurd h (by decide)
    · intro _
      refine wp_iload_n rfl rfl ?_
      refine wp_iconst (v := 0) rfl (by decide) ?_
      refine wp_iconst (v := 3) rfl (by decide) ?_
      refine wp_S3 rfl mX6_come_89 (Nat.le_of_ble_eq_true rfl) (r_in (in_rg (a := 0) (b := 3) (by omega) (by omega))) ?_
      rintro _ _ ⟨rfl, ⟨hc, rfl⟩ | ⟨hc, rfl⟩⟩
      rotate_left
      · refine wp_if_eq (tgt := 56) rfl (by decide) ?_ ?_
        · intro _
          exact no (fun q => hc q.1.2.2.1)
        · intro h
          exact absurd rfl h
      refine wp_if_eq (tgt := 56) rfl (by decide) ?_ ?_
      · intro h
        exact absurd h (by decide)
      · intro _
        refine wp_iload rfl rfl ?_
        refine wp_iconst (v := -1) rfl (by decide) ?_
        refine wp_aload_n rfl rfl ?_
        refine st_getI rfl fX6_121 rfl (by assumption) (e16) ?_
        refine wp_iconst (v := 1) rfl (by decide) ?_
        refine wp_isub rfl ?_
        refine wp_S3 rfl mX6_come_89 (Nat.le_of_ble_eq_true rfl) (r_in (in_m1 (n := tc) (by omega))) ?_
        rintro _ _ ⟨rfl, ⟨he, rfl⟩ | ⟨he, rfl⟩⟩
        rotate_left
        · refine wp_if_eq (tgt := 56) rfl (by decide) ?_ ?_
          · intro _
            exact no (fun q => he q.1.2.2.2)
          · intro h
            exact absurd rfl h
        refine wp_if_eq (tgt := 56) rfl (by decide) ?_ ?_
        · intro h
          exact absurd h (by decide)
        · intro _
          refine wp_aload_n rfl rfl ?_
          refine st_getI rfl fX6_121 rfl (by assumption) (e16) ?_
          refine wp_bipush (v := 20) rfl (by decide) ?_
          refine wp_icmp_ge (tgt := 56) rfl (by decide) ?_ ?_
          · intro h49
            exact no (fun q => absurd h49 (nI_ge (b := 20) q.2 (by omega)))
          · intro h49
            have h20 : tc < 20 := by
              rcases Nat.lt_or_ge tc 20 with q | q
              · exact q
              · exact absurd (nI_le (a := 20) q (by omega)) h49
            refine wp_iconst (v := 1) rfl (by decide) ?_
            refine wp_goto (tgt := 57) rfl (by decide) ?_
            refine wp_istore rfl (by decide) ?_
            refine wp_iload rfl rfl ?_
            refine wp_if_ne (tgt := 66) rfl (by decide) ?_ ?_
            · intro _
              refine wp_aload_n rfl rfl ?_
              refine st_getR rfl fX6_41 rfl (by assumption) (by assumption) ?_
              refine wp_aload_n rfl rfl ?_
              refine st_getI rfl fX6_121 rfl (by assumption) (e16) ?_
              refine wp_iload_n rfl rfl ?_
              refine st_iast rfl (by assumption) (by omega) rfl (h20) (by first | decide | omega) ?_
              refine wp_aload_n rfl rfl ?_
              refine st_getR rfl fX6_44 rfl (by assumption) (by assumption) ?_
              refine wp_aload_n rfl rfl ?_
              refine st_getI rfl fX6_121 rfl (by assumption) ((hu_n (by omega)).trans e16) ?_
              refine wp_iload_n rfl rfl ?_
              refine st_iast rfl (by assumption) (by omega) rfl (h20) (by first | decide | omega) ?_
              refine wp_aload_n rfl rfl ?_
              refine st_getR rfl fX6_47 rfl (by assumption) (by assumption) ?_
              refine wp_aload_n rfl rfl ?_
              refine st_getI rfl fX6_121 rfl (by assumption) ((hu_n (by omega)).trans ((hu_n (by omega)).trans e16)) ?_
              refine wp_iload_n rfl rfl ?_
              refine st_iast rfl (by assumption) (by omega) rfl (h20) (by first | decide | omega) ?_
              refine wp_aload_n rfl rfl ?_
              refine st_getR rfl fX6_50 rfl (by assumption) (by assumption) ?_
              refine wp_aload_n rfl rfl ?_
              refine st_getI rfl fX6_121 rfl (by assumption) ((hu_n (by omega)).trans ((hu_n (by omega)).trans ((hu_n (by omega)).trans e16))) ?_
              refine wp_iload rfl rfl ?_
              refine st_iast rfl (by assumption) (by omega) rfl (h20) (by first | decide | omega) ?_
              refine wp_aload_n rfl rfl ?_
              refine st_getR rfl fX6_53 rfl (by assumption) (by assumption) ?_
              refine wp_aload_n rfl rfl ?_
              refine st_getI rfl fX6_121 rfl (by assumption) ((hu_n (by omega)).trans ((hu_n (by omega)).trans ((hu_n (by omega)).trans ((hu_n (by omega)).trans e16)))) ?_
              refine wp_iconst (v := 0) rfl (by decide) ?_
              refine st_iast rfl (by assumption) (by omega) rfl (h20) (by first | decide | omega) ?_
              refine wp_aload_n rfl rfl ?_
              refine st_getR rfl fX6_56 rfl (by assumption) (by assumption) ?_
              refine wp_aload_n rfl rfl ?_
              refine st_getI rfl fX6_121 rfl (by assumption) ((hu_n (by omega)).trans ((hu_n (by omega)).trans ((hu_n (by omega)).trans ((hu_n (by omega)).trans ((hu_n (by omega)).trans e16))))) ?_
              refine wp_iconst (v := 0) rfl (by decide) ?_
              refine st_iast rfl (by assumption) (by omega) rfl (h20) (by first | decide | omega) ?_
              refine wp_aload_n rfl rfl ?_
              refine st_getR rfl fX6_62 rfl (by assumption) (by assumption) ?_
              refine wp_aload_n rfl rfl ?_
              refine st_getI rfl fX6_121 rfl (by assumption) ((hu_n (by omega)).trans ((hu_n (by omega)).trans ((hu_n (by omega)).trans ((hu_n (by omega)).trans ((hu_n (by omega)).trans ((hu_n (by omega)).trans e16)))))) ?_
              refine wp_iconst (v := 0) rfl (by decide) ?_
              refine st_iast rfl (by assumption) (by omega) rfl (h20) (by first | decide | omega) ?_
              refine wp_aload_n rfl rfl ?_
              refine wp_dup rfl ?_
              refine st_getI rfl fX6_121 rfl (by assumption) ((hu_n (by omega)).trans ((hu_n (by omega)).trans ((hu_n (by omega)).trans ((hu_n (by omega)).trans ((hu_n (by omega)).trans ((hu_n (by omega)).trans ((hu_n (by omega)).trans e16))))))) ?_
              refine wp_iconst (v := 1) rfl (by decide) ?_
              refine wp_iadd rfl ?_
              refine st_putI rfl fX6_121 rfl rfl ⟨rfl, rfl⟩ (by assumption) ?_
              refine wp_aload_n rfl rfl ?_
              refine st_getI rfl fX6_121 rfl (by assumption) (hu_s) ?_
              refine wp_iconst (v := 1) rfl (by decide) ?_
              refine wp_isub rfl ?_
              refine wp_ireturn rfl .int rfl rfl ?_
              rw [← hQ, aTask, cIf_t ⟨⟨ha, hb, hc, he⟩, h20⟩]
              obtain ⟨a1, a2, a3, a4, a5⟩ := hR
              obtain ⟨z4, z5, z6, z7⟩ : g tc 4 = 0 ∧ g tc 5 = 0 ∧ g tc 6 = -1 ∧ g tc 7 = 0 := hF.2.2.1 tc (Nat.le_refl _) h20
              refine ⟨?_, _, rfl, fun q j q1 q2 => ?_, ?_⟩
              · show some (Sum.inl (nI tc + 1 - 1)) = some (Sum.inl (nI tc))
                rw [nI_1, nI_pred]
              · rw [hu_n (by omega), hu_n (by omega), hu_n (by omega), hu_n (by omega), hu_n (by omega), hu_n (by omega), hu_n (by omega), hu_n (by omega)]
              · have fr : ∀ q j, ¬ (q = Y ∧ j = 16) → ¬ (Y + 11 ≤ q ∧ q ≤ Y + 18 ∧ j = tc) → hu (hu (hu (hu (hu (hu (hu (hu d (Y + 11) tc a) (Y + 12) tc b) (Y + 13) tc c) (Y + 14) tc e) (Y + 15) tc 0) (Y + 16) tc 0) (Y + 18) tc 0) Y 16 (nI tc + 1) q j = d q j := fun q j h1 h2 => by
                  rw [hu_n (by omega), hu_n (by omega), hu_n (by omega), hu_n (by omega), hu_n (by omega), hu_n (by omega), hu_n (by omega), hu_n (by omega)]
                have own : ∀ q, q ≠ Y → hu (hu (hu (hu (hu (hu (hu (hu d (Y + 11) tc a) (Y + 12) tc b) (Y + 13) tc c) (Y + 14) tc e) (Y + 15) tc 0) (Y + 16) tc 0) (Y + 18) tc 0) Y 16 (nI tc + 1) q tc = if q = Y + 18 then 0 else if q = Y + 16 then 0 else if q = Y + 15 then 0 else if q = Y + 14 then e else if q = Y + 13 then c else if q = Y + 12 then b else if q = Y + 11 then a else d q tc := fun q hq => by
                  rw [hu_n (by omega)]
                  simp only [hu, and_true]
                have fy : hu (hu (hu (hu (hu (hu (hu (hu d (Y + 11) tc a) (Y + 12) tc b) (Y + 13) tc c) (Y + 14) tc e) (Y + 15) tc 0) (Y + 16) tc 0) (Y + 18) tc 0) Y 16 (nI tc + 1) Y 16 = nI tc + 1 := hu_s
                generalize hu (hu (hu (hu (hu (hu (hu (hu d (Y + 11) tc a) (Y + 12) tc b) (Y + 13) tc c) (Y + 14) tc e) (Y + 15) tc 0) (Y + 16) tc 0) (Y + 18) tc 0) Y 16 (nI tc + 1) = D at fr own fy ⊢
                refine ⟨(fr _ _ (by omega) (by omega)).trans a1, ?_, fun u hu4 => (fr _ _ (by omega) (by omega)).trans (a3 u hu4), fun w hw => (fr _ _ (by omega) (by omega)).trans (a4 w hw), fun t ht => ?_⟩
                · rw [fy]; exact nI_1 tc
                · have ht' : t < tc + 1 := ht
                  by_cases et : t = tc
                  · subst et
                    dsimp only
                    refine ⟨?_, ?_, ?_, ?_, ?_, ?_, ?_, ?_⟩
                    · rw [own _ (by omega), if_neg (by omega), if_neg (by omega), if_neg (by omega), if_neg (by omega), if_neg (by omega), if_neg (by omega), if_pos rfl, hu_n (by omega), hu_n (by omega), hu_n (by omega), hu_s]
                    · rw [own _ (by omega), if_neg (by omega), if_neg (by omega), if_neg (by omega), if_neg (by omega), if_neg (by omega), if_pos rfl, hu_n (by omega), hu_n (by omega), hu_s]
                    · rw [own _ (by omega), if_neg (by omega), if_neg (by omega), if_neg (by omega), if_neg (by omega), if_pos rfl, hu_n (by omega), hu_s]
                    · rw [own _ (by omega), if_neg (by omega), if_neg (by omega), if_neg (by omega), if_pos rfl, hu_s]
                    · rw [own _ (by omega), if_neg (by omega), if_neg (by omega), if_pos rfl, hu_n (by omega), hu_n (by omega), hu_n (by omega), hu_n (by omega), z4]
                    · rw [own _ (by omega), if_neg (by omega), if_pos rfl, hu_n (by omega), hu_n (by omega), hu_n (by omega), hu_n (by omega), z5]
                    · rw [own _ (by omega), if_pos rfl, hu_n (by omega), hu_n (by omega), hu_n (by omega), hu_n (by omega), z7]
                    · intro q
                      rw [hu_n (by omega), hu_n (by omega), hu_n (by omega), hu_n (by omega), z4] at q
                      exact absurd q (by decide)
                  · have := a5 t (by show t < tc; omega)
                    dsimp only at this ⊢
                    rw [row_n et, row_n et, row_n et, row_n et, fr _ _ (by omega) (by omega), fr _ _ (by omega) (by omega), fr _ _ (by omega) (by omega), fr _ _ (by omega) (by omega), fr _ _ (by omega) (by omega), fr _ _ (by omega) (by omega), fr _ _ (by omega) (by omega), fr _ _ (by omega) (by omega)]
                    exact this
            · intro hc
              exact absurd hc (by decide)
theorem r_noT {n : Nat} (hk : kd Y = some (.inl 6)) (hv : d Y 16 = nI n) (hn : n < 2147483648) : Cl X kX6_noTask [.inr (some Y), .inl x] (K, z, kd, d, r) (fun rv M' => M' = (K, z, kd, d, r) ∧ ((inR x 0 n ∧ rv = some (.inl 0)) ∨ (¬ inR x 0 n ∧ rv = some (.inl 1)))) := by
  refine (c_noTask hk hv hn).mono ?_
  rintro rv M' ⟨v, rfl, rfl, hv⟩
  rcases rg_1 hv with ⟨rfl, h⟩ | ⟨rfl, h⟩
  · exact ⟨rfl, Or.inl ⟨h, rfl⟩⟩
  · exact ⟨rfl, Or.inr ⟨h, rfl⟩⟩
theorem r_act (hS : rs kd r Y) (hR : rS d Y S) (hF : sWf S) : Cl X kX6_act [.inr (some Y), .inl x, .inl a, .inl b, .inl c, .inl e] (K, z, kd, d, r) (rPs K z kd r d Y (sAct S x a b c e)) := by
  obtain ⟨wc, tc, quo, cap, g, bd⟩ := S
  obtain ⟨k0, r2, r3, r4, r5, r6, r7, r8, r12, r13, r15, r17, r18, r19, r20, r21, r22, r23, r24, r25, k1, k2, k3, k4, k5, k6, k7, k8, k9, k10, k11, k12, k13, k14, k15, k16, k17, k18, k19, hY⟩ := id hS
  have hwc : wc ≤ 6 := hF.1.1
  have htc : tc ≤ 20 := hF.1.2.1
  have e16 : d Y 16 = nI tc := hR.2.1
  have e14 : d Y 14 = nI wc := hR.1
  have hT : ∀ t, t < tc → d (Y + 11) t = g t 0 ∧ d (Y + 12) t = g t 1 ∧ d (Y + 13) t = g t 2 ∧ d (Y + 14) t = g t 3 ∧ d (Y + 15) t = g t 4 ∧ d (Y + 16) t = g t 5 ∧ d (Y + 18) t = g t 7 ∧ (g t 4 = 1 → d (Y + 17) t = g t 6) := hR.2.2.2.2
  refine h_ofWp oX6_act (by decide) (Nat.le_of_ble_eq_true rfl) ?_
  have same : ∀ v : Int32, rPs K z kd r d Y ((wc, tc, quo, cap, g, bd), v) (some (.inl v)) (K, z, kd, d, r) := fun v => ⟨rfl, d, rfl, rFr_refl _ _, hR⟩
  have c0 : Wp X kX6_act K z 48 [some (.inr (some Y)), some (.inl x), some (.inl a), some (.inl b), some (.inl c), some (.inl e), none, none] [] (K, z, kd, d, r) (rPs K z kd r d Y (aQuota (wc, tc, quo, cap, g, bd) a b)) := by
    have no : ¬ (inR a 0 4 ∧ inR b 0 61) → Wp X kX6_act K z 67 [some (.inr (some Y)), some (.inl x), some (.inl a), some (.inl b), some (.inl c), some (.inl e), none, none] [] (K, z, kd, d, r) (rPs K z kd r d Y (aQuota (wc, tc, quo, cap, g, bd) a b)) := by
      intro h
      refine wp_iconst (v := 0) rfl (by decide) ?_
      refine wp_ireturn rfl .int rfl rfl ?_
      rw [aQuota, cIf_f h]
      exact same 0
    refine wp_iload_n rfl rfl ?_
    refine wp_iconst (v := 0) rfl (by decide) ?_
    refine wp_iconst (v := 3) rfl (by decide) ?_
    refine wp_S3 rfl mX6_act_89 (Nat.le_of_ble_eq_true rfl) (r_in (in_rg (a := 0) (b := 3) (by omega) (by omega))) ?_
    rintro _ _ ⟨rfl, ⟨ha, rfl⟩ | ⟨ha, rfl⟩⟩
    · refine wp_if_eq (tgt := 67) rfl (by decide) ?_ ?_
      · intro h
        exact absurd h (by decide)
      · intro _
        refine wp_iload_n rfl rfl ?_
        refine wp_iconst (v := 0) rfl (by decide) ?_
        refine wp_bipush (v := 60) rfl (by decide) ?_
        refine wp_S3 rfl mX6_act_89 (Nat.le_of_ble_eq_true rfl) (r_in (in_rg (a := 0) (b := 60) (by omega) (by omega))) ?_
        rintro _ _ ⟨rfl, ⟨hb, rfl⟩ | ⟨hb, rfl⟩⟩
        · refine wp_if_ne (tgt := 69) rfl (by decide) ?_ ?_
          · intro _
            obtain ⟨u, -, hu4, rfl⟩ := ha
            refine wp_aload_n rfl rfl ?_
            refine st_getR rfl fX6_35 rfl (by assumption) (by assumption) ?_
            refine wp_iload_n rfl rfl ?_
            refine wp_iload_n rfl rfl ?_
            refine st_iast rfl (by assumption) (by omega) rfl (hu4) (by first | decide | omega) ?_
            refine wp_iconst (v := 1) rfl (by decide) ?_
            refine wp_ireturn rfl .int rfl rfl ?_
            rw [aQuota, cIf_t ⟨⟨u, Nat.zero_le _, hu4, rfl⟩, hb⟩, nI_clamp (show u < 2 ^ 31 by omega)]
            obtain ⟨a1, a2, a3, a4, a5⟩ := hR
            refine ⟨rfl, _, rfl, rFr_hu (rFr_refl _ _) (by omega), ?_⟩
            refine ⟨(hu_n (by omega)).trans a1, (hu_n (by omega)).trans a2, fun v hv4 => ?_, fun w hw => (hu_n (by omega)).trans (a4 w hw), ?_⟩
            · rw [row_s]
              dsimp only
              by_cases ev : v = u
              · subst ev; rw [hu1_s, hu1_s]
              · rw [hu1_n ev, hu1_n ev]; exact a3 v hv4
            · rw [row_n (by omega), row_n (by omega), row_n (by omega), row_n (by omega), row_n (by omega), row_n (by omega), row_n (by omega), row_n (by omega)]
              exact a5
          · intro h
            exact absurd h (by decide)
        · refine wp_if_ne (tgt := 69) rfl (by decide) ?_ ?_
          · intro h
            exact absurd rfl h
          · intro _
            exact no (fun q => hb q.2)
    · refine wp_if_eq (tgt := 67) rfl (by decide) ?_ ?_
      · intro _
        exact no (fun q => ha q.1)
      · intro h
        exact absurd rfl h
  have c1 : Wp X kX6_act K z 78 [some (.inr (some Y)), some (.inl x), some (.inl a), some (.inl b), some (.inl c), some (.inl e), none, none] [] (K, z, kd, d, r) (rPs K z kd r d Y (aWork (wc, tc, quo, cap, g, bd) a)) := by
    have no : ¬ (inR a 1 21 ∧ wc < 6) → Wp X kX6_act K z 97 [some (.inr (some Y)), some (.inl x), some (.inl a), some (.inl b), some (.inl c), some (.inl e), none, none] [] (K, z, kd, d, r) (rPs K z kd r d Y (aWork (wc, tc, quo, cap, g, bd) a)) := by
      intro h
      refine wp_iconst (v := -1) rfl (by decide) ?_
      refine wp_ireturn rfl .int rfl rfl ?_
      rw [aWork, cIf_f h]
      exact same (-1)
    refine wp_iload_n rfl rfl ?_
    refine wp_iconst (v := 1) rfl (by decide) ?_
    refine wp_bipush (v := 20) rfl (by decide) ?_
    refine wp_S3 rfl mX6_act_89 (Nat.le_of_ble_eq_true rfl) (r_in (in_rg (a := 1) (b := 20) (by omega) (by omega))) ?_
    rintro _ _ ⟨rfl, ⟨ha, rfl⟩ | ⟨ha, rfl⟩⟩
    · refine wp_if_eq (tgt := 97) rfl (by decide) ?_ ?_
      · intro h
        exact absurd h (by decide)
      · intro _
        refine wp_aload_n rfl rfl ?_
        refine st_getI rfl fX6_118 rfl (by assumption) (e14) ?_
        refine wp_bipush (v := 6) rfl (by decide) ?_
        refine wp_icmp_ne (tgt := 99) rfl (by decide) ?_ ?_
        · intro h94
          have h6 : wc < 6 := by
            rcases Nat.lt_or_ge wc 6 with q | q
            · exact q
            · exact absurd (show nI wc = 6 by rw [show wc = 6 by omega]; rfl) h94
          refine wp_aload_n rfl rfl ?_
          refine st_getR rfl fX6_38 rfl (by assumption) (by assumption) ?_
          refine wp_aload_n rfl rfl ?_
          refine st_getI rfl fX6_118 rfl (by assumption) (e14) ?_
          refine wp_iload_n rfl rfl ?_
          refine st_iast rfl (by assumption) (by omega) rfl (h6) (by first | decide | omega) ?_
          refine wp_aload_n rfl rfl ?_
          refine wp_dup rfl ?_
          refine st_getI rfl fX6_118 rfl (by assumption) ((hu_n (by omega)).trans e14) ?_
          refine wp_iconst (v := 1) rfl (by decide) ?_
          refine wp_iadd rfl ?_
          refine st_putI rfl fX6_118 rfl rfl ⟨rfl, rfl⟩ (by assumption) ?_
          refine wp_aload_n rfl rfl ?_
          refine st_getI rfl fX6_118 rfl (by assumption) (hu_s) ?_
          refine wp_iconst (v := 1) rfl (by decide) ?_
          refine wp_isub rfl ?_
          refine wp_ireturn rfl .int rfl rfl ?_
          rw [aWork, cIf_t ⟨ha, h6⟩]
          obtain ⟨a1, a2, a3, a4, a5⟩ := hR
          refine ⟨?_, _, rfl, fun q j q1 q2 => by rw [hu_n (by omega), hu_n (by omega)], ?_⟩
          · show some (Sum.inl (nI wc + 1 - 1)) = some (Sum.inl (nI wc))
            rw [nI_1, nI_pred]
          · refine ⟨by rw [hu_s]; exact nI_1 wc, by rw [hu_n (by omega), hu_n (by omega)]; exact a2, fun u hu4 => by rw [hu_n (by omega), hu_n (by omega)]; exact a3 u hu4, fun w hw => ?_, ?_⟩
            · have hw' : w < wc + 1 := hw
              rw [row_n (by omega), row_s]
              dsimp only
              by_cases ew : w = wc
              · subst ew; rw [hu1_s, hu1_s]
              · rw [hu1_n ew, hu1_n ew]; exact a4 w (by show w < wc; omega)
            · rw [row_n (by omega), row_n (by omega), row_n (by omega), row_n (by omega), row_n (by omega), row_n (by omega), row_n (by omega), row_n (by omega), row_n (by omega), row_n (by omega), row_n (by omega), row_n (by omega), row_n (by omega), row_n (by omega), row_n (by omega), row_n (by omega)]
              exact a5
        · intro h94
          exact no (fun q => absurd (show wc = 6 from (nI_eq (b := 6) (by omega) (by omega)).mp h94) (by omega))
    · refine wp_if_eq (tgt := 97) rfl (by decide) ?_ ?_
      · intro _
        exact no (fun q => ha q.1)
      · intro h
        exact absurd rfl h
  have c4 : Wp X kX6_act K z 142 [some (.inr (some Y)), some (.inl x), some (.inl a), some (.inl b), some (.inl c), some (.inl e), none, none] [] (K, z, kd, d, r) (rPs K z kd r d Y (aFin (wc, tc, quo, cap, g, bd) a b c)) := by
    have no : ¬ (inR a 0 tc ∧ g a.toNatClampNeg 4 = 1 ∧ g a.toNatClampNeg 5 = b) → Wp X kX6_act K z 170 [some (.inr (some Y)), some (.inl x), some (.inl a), some (.inl b), some (.inl c), some (.inl e), none, none] [] (K, z, kd, d, r) (rPs K z kd r d Y (aFin (wc, tc, quo, cap, g, bd) a b c)) := by
      intro h
      refine wp_iconst (v := 0) rfl (by decide) ?_
      refine wp_ireturn rfl .int rfl rfl ?_
      rw [aFin, cIf_f h]
      exact same 0
    refine wp_aload_n rfl rfl ?_
    refine wp_iload_n rfl rfl ?_
    refine wp_V1 rfl mX6_act_136 (k0) (Nat.le_of_ble_eq_true rfl) (r_noT k0 e16 (by omega)) ?_
    rintro _ _ ⟨rfl, ⟨ha, rfl⟩ | ⟨ha, rfl⟩⟩
    · obtain ⟨t, -, ht, rfl⟩ := ha
      have ct : (nI t).toNatClampNeg = t := nI_clamp (by omega)
      obtain ⟨t0, t1, t2, t3, t4, t5, t7, t6⟩ := hT t ht
      refine wp_if_ne (tgt := 170) rfl (by decide) ?_ ?_
      · intro h
        exact absurd rfl h
      · intro _
        refine wp_aload_n rfl rfl ?_
        refine st_getR rfl fX6_53 rfl (by assumption) (by assumption) ?_
        refine wp_iload_n rfl rfl ?_
        refine st_iald rfl (by assumption) rfl (by omega) (by first | decide | omega) (t4) ?_
        refine wp_iconst (v := 1) rfl (by decide) ?_
        refine wp_icmp_ne (tgt := 170) rfl (by decide) ?_ ?_
        · intro h
          exact no (fun q => h (by rw [ct] at q; exact q.2.1))
        · intro h157
          refine wp_aload_n rfl rfl ?_
          refine st_getR rfl fX6_56 rfl (by assumption) (by assumption) ?_
          refine wp_iload_n rfl rfl ?_
          refine st_iald rfl (by assumption) rfl (by omega) (by first | decide | omega) (t5) ?_
          refine wp_iload_n rfl rfl ?_
          refine wp_icmp_eq (tgt := 172) rfl (by decide) ?_ ?_
          · intro h167
            refine wp_aload_n rfl rfl ?_
            refine st_getR rfl fX6_53 rfl (by assumption) (by assumption) ?_
            refine wp_iload_n rfl rfl ?_
            refine wp_iconst (v := 2) rfl (by decide) ?_
            refine st_iast rfl (by assumption) (by omega) rfl ((by omega : t < 20)) (by first | decide | omega) ?_
            refine wp_aload_n rfl rfl ?_
            refine st_getR rfl fX6_62 rfl (by assumption) (by assumption) ?_
            refine wp_iload_n rfl rfl ?_
            refine wp_iload rfl rfl ?_
            refine st_iast rfl (by assumption) (by omega) rfl ((by omega : t < 20)) (by first | decide | omega) ?_
            refine wp_iconst (v := 1) rfl (by decide) ?_
            refine wp_ireturn rfl .int rfl rfl ?_
            rw [aFin, cIf_t ⟨⟨t, Nat.zero_le _, ht, rfl⟩, by dsimp only; rw [ct]; exact ⟨h157, h167⟩⟩, ct]
            refine ⟨rfl, _, rfl, rFr_hu (rFr_hu (rFr_refl _ _) (by omega)) (by omega), ?_⟩
            refine rS_one (x := t) hR (fun s hs => by rw [row_n hs, row_n hs, row_n hs]) ⟨?_, ?_, ?_, ?_, ?_, ?_, ?_, ?_⟩ (fun q j q1 q2 => by rw [hu_n (by omega), hu_n (by omega)])
            · rw [hu_n (by omega), hu_n (by omega), hu_n (by omega), hu_n (by omega), hu_n (by omega)]; exact t0
            · rw [hu_n (by omega), hu_n (by omega), hu_n (by omega), hu_n (by omega), hu_n (by omega)]; exact t1
            · rw [hu_n (by omega), hu_n (by omega), hu_n (by omega), hu_n (by omega), hu_n (by omega)]; exact t2
            · rw [hu_n (by omega), hu_n (by omega), hu_n (by omega), hu_n (by omega), hu_n (by omega)]; exact t3
            · rw [hu_n (by omega), hu_s, hu_n (by omega), hu_n (by omega), hu_s]
            · rw [hu_n (by omega), hu_n (by omega), hu_n (by omega), hu_n (by omega), hu_n (by omega)]; exact t5
            · rw [hu_s, hu_s]
            · intro q
              rw [hu_n (by omega), hu_n (by omega), hu_s] at q
              exact absurd q (by decide)
          · intro h
            exact no (fun q => h (by rw [ct] at q; exact q.2.2))
    · refine wp_if_ne (tgt := 170) rfl (by decide) ?_ ?_
      · intro _
        exact no (fun q => ha q.1)
      · intro h
        exact absurd h (by decide)
  have c5 : Wp X kX6_act K z 189 [some (.inr (some Y)), some (.inl x), some (.inl a), some (.inl b), some (.inl c), some (.inl e), none, none] [] (K, z, kd, d, r) (rPs K z kd r d Y (aCan (wc, tc, quo, cap, g, bd) a)) := by
    have no : ¬ (inR a 0 tc ∧ (g a.toNatClampNeg 4 = 0 ∨ g a.toNatClampNeg 4 = 1)) → Wp X kX6_act K z 207 [some (.inr (some Y)), some (.inl x), some (.inl a), some (.inl b), some (.inl c), some (.inl e), none, none] [] (K, z, kd, d, r) (rPs K z kd r d Y (aCan (wc, tc, quo, cap, g, bd) a)) := by
      intro h
      refine wp_iconst (v := 0) rfl (by decide) ?_
      refine wp_ireturn rfl .int rfl rfl ?_
      rw [aCan, cIf_f h]
      exact same 0
    refine wp_aload_n rfl rfl ?_
    refine wp_iload_n rfl rfl ?_
    refine wp_V1 rfl mX6_act_136 (k0) (Nat.le_of_ble_eq_true rfl) (r_noT k0 e16 (by omega)) ?_
    rintro _ _ ⟨rfl, ⟨ha, rfl⟩ | ⟨ha, rfl⟩⟩
    · obtain ⟨t, -, ht, rfl⟩ := ha
      have ct : (nI t).toNatClampNeg = t := nI_clamp (by omega)
      obtain ⟨t0, t1, t2, t3, t4, t5, t7, t6⟩ := hT t ht
      have hst : g t 4 = 0 ∨ g t 4 = 1 ∨ g t 4 = 2 ∨ g t 4 = 3 := (hF.2.1 t ht).2.2.1
      refine wp_if_ne (tgt := 207) rfl (by decide) ?_ ?_
      · intro h
        exact absurd rfl h
      · intro _
        refine wp_aload_n rfl rfl ?_
        refine st_getR rfl fX6_53 rfl (by assumption) (by assumption) ?_
        refine wp_iload_n rfl rfl ?_
        refine st_iald rfl (by assumption) rfl (by omega) (by first | decide | omega) (t4) ?_
        refine wp_iconst (v := 1) rfl (by decide) ?_
        refine wp_icmp_le (tgt := 209) rfl (by decide) ?_ ?_
        · intro h204
          have h01 : g t 4 = 0 ∨ g t 4 = 1 := by
            rcases hst with q | q | q | q
            · exact Or.inl q
            · exact Or.inr q
            · rw [q] at h204; exact absurd h204 (by decide)
            · rw [q] at h204; exact absurd h204 (by decide)
          refine wp_aload_n rfl rfl ?_
          refine st_getR rfl fX6_53 rfl (by assumption) (by assumption) ?_
          refine wp_iload_n rfl rfl ?_
          refine wp_iconst (v := 3) rfl (by decide) ?_
          refine st_iast rfl (by assumption) (by omega) rfl ((by omega : t < 20)) (by first | decide | omega) ?_
          refine wp_iconst (v := 1) rfl (by decide) ?_
          refine wp_ireturn rfl .int rfl rfl ?_
          rw [aCan, cIf_t ⟨⟨t, Nat.zero_le _, ht, rfl⟩, by dsimp only; rw [ct]; exact h01⟩, ct]
          exact ⟨rfl, _, rfl, rFr_hu (rFr_refl _ _) (by omega), rS_off hR ht (by decide)⟩
        · intro h204
          refine no (fun q => h204 ?_)
          rw [ct] at q
          rcases q.2 with q | q
          · rw [q]; decide
          · rw [q]; decide
    · refine wp_if_ne (tgt := 207) rfl (by decide) ?_ ?_
      · intro _
        exact no (fun q => ha q.1)
      · intro h
        exact absurd h (by decide)
  have c7 : Wp X kX6_act K z 275 [some (.inr (some Y)), some (.inl x), some (.inl a), some (.inl b), some (.inl c), some (.inl e), none, none] [] (K, z, kd, d, r) (rPs K z kd r d Y (aStand (wc, tc, quo, cap, g, bd) a)) := by
    refine wp_aload_n rfl rfl ?_
    refine wp_iload_n rfl rfl ?_
    refine wp_V1 rfl mX6_act_136 (k0) (Nat.le_of_ble_eq_true rfl) (r_noT k0 e16 (by omega)) ?_
    rintro _ _ ⟨rfl, ⟨ha, rfl⟩ | ⟨ha, rfl⟩⟩
    · obtain ⟨t, -, ht, rfl⟩ := ha
      have ct : (nI t).toNatClampNeg = t := nI_clamp (by omega)
      obtain ⟨t0, t1, t2, t3, t4, t5, t7, t6⟩ := hT t ht
      refine wp_if_eq (tgt := 287) rfl (by decide) ?_ ?_
      · intro _
        refine wp_sipush (v := 1000) rfl (by decide) ?_
        refine wp_aload_n rfl rfl ?_
        refine st_getR rfl fX6_53 rfl (by assumption) (by assumption) ?_
        refine wp_iload_n rfl rfl ?_
        refine st_iald rfl (by assumption) rfl (by omega) (by first | decide | omega) (t4) ?_
        refine wp_imul rfl ?_
        refine wp_aload_n rfl rfl ?_
        refine st_getR rfl fX6_56 rfl (by assumption) (by assumption) ?_
        refine wp_iload_n rfl rfl ?_
        refine st_iald rfl (by assumption) rfl (by omega) (by first | decide | omega) (t5) ?_
        refine wp_iadd rfl ?_
        refine wp_ireturn rfl .int rfl rfl ?_
        rw [aStand, cIf_t ⟨t, Nat.zero_le _, ht, rfl⟩, ct]
        exact same _
      · intro h
        exact absurd rfl h
    · refine wp_if_eq (tgt := 287) rfl (by decide) ?_ ?_
      · intro h
        exact absurd h (by decide)
      · intro _
        refine wp_iconst (v := -1) rfl (by decide) ?_
        refine wp_goto (tgt := 304) rfl (by decide) ?_
        refine wp_ireturn rfl .int rfl rfl ?_
        rw [aStand, cIf_f ha]
        exact same _
  have c6 : Wp X kX6_act K z 218 [some (.inr (some Y)), some (.inl x), some (.inl a), some (.inl b), some (.inl c), some (.inl e), none, none] [] (K, z, kd, d, r) (rPs K z kd r d Y (aLease (wc, tc, quo, cap, g, bd) a)) := by
    by_cases ha : inR a 0 wc
    · rw [aLease, cIf_t ha]
      obtain ⟨w, -, hw, rfl⟩ := ha
      have loop : ∀ n k d1, k + n = tc → rFr Y d d1 → rS d1 Y (wc, tc, quo, cap, (sLe g (nI w) k).1, bd) → Wp X kX6_act K z 224 [some (.inr (some Y)), some (.inl x), some (.inl (nI w)), some (.inl b), some (.inl c), some (.inl e), some (.inl (nI (sLe g (nI w) k).2)), some (.inl (nI k))] [] (K, z, kd, d1, r) (rPs K z kd r d Y ((wc, tc, quo, cap, (sLe g (nI w) tc).1, bd), nI (sLe g (nI w) tc).2)) := by
        intro n
        induction n with
        | zero =>
          intro k d1 hk hf1 hR1
          have : k = tc := by omega
          subst this
          have e16' : d1 Y 16 = nI k := hR1.2.1
          refine wp_iload rfl rfl ?_
          refine wp_aload_n rfl rfl ?_
          refine st_getI rfl fX6_121 rfl (by assumption) (e16') ?_
          refine wp_icmp_ge (tgt := 272) rfl (by decide) ?_ ?_
          · intro _
            refine wp_iload rfl rfl ?_
            refine wp_ireturn rfl .int rfl rfl ?_
            exact ⟨rfl, d1, rfl, hf1, hR1⟩
          · intro h
            exact absurd (nI_le (Nat.le_refl _) (by omega)) h
        | succ n ih =>
          intro k d1 hk hf1 hR1
          have hkt : k < tc := by omega
          have e16' : d1 Y 16 = nI tc := hR1.2.1
          have hF1 : sWf (wc, tc, quo, cap, (sLe g (nI w) k).1, bd) := sWf_le hF k (by omega)
          have hiff : (d1 (Y + 15) k = 1 ∧ d1 (Y + 17) k = nI w) ↔ (sLe g (nI w) k).1 k 6 = nI w := run_iff hR1 hF1 hkt (by omega)
          have ih' := fun d1 => ih (k + 1) d1 (by omega)
          have E2 : ¬ (d1 (Y + 15) k = 1 ∧ d1 (Y + 17) k = nI w) → sLe g (nI w) (k + 1) = sLe g (nI w) k := fun q => if_neg (fun c => q (hiff.mpr c))
          have E1 : d1 (Y + 15) k = 1 → d1 (Y + 17) k = nI w → sLe g (nI w) (k + 1) = (hu (hu (sLe g (nI w) k).1 k 4 0) k 6 (-1), (sLe g (nI w) k).2 + 1) := fun q1 q2 => if_pos (hiff.mp ⟨q1, q2⟩)
          refine wp_iload rfl rfl ?_
          refine wp_aload_n rfl rfl ?_
          refine st_getI rfl fX6_121 rfl (by assumption) (e16') ?_
          refine wp_icmp_ge (tgt := 272) rfl (by decide) ?_ ?_
          · intro h
            exact absurd h (nI_ge hkt (by omega))
          · intro _
            refine wp_aload_n rfl rfl ?_
            refine st_getR rfl fX6_53 rfl (by assumption) (by assumption) ?_
            refine wp_iload rfl rfl ?_
            refine st_iald rfl (by assumption) rfl ((by omega : k < 20)) (by first | decide | omega) rfl ?_
            refine wp_iconst (v := 1) rfl (by decide) ?_
            refine wp_icmp_ne (tgt := 266) rfl (by decide) ?_ ?_
            · intro h
              rw [E2 (fun q => h q.1)] at ih'
              refine wp_inc rfl rfl (by decide) ?_
              refine wp_goto (tgt := 224) rfl (by decide) ?_
              exact ih' d1 hf1 hR1
            · intro h241
              refine wp_aload_n rfl rfl ?_
              refine st_getR rfl fX6_59 rfl (by assumption) (by assumption) ?_
              refine wp_iload rfl rfl ?_
              refine st_iald rfl (by assumption) rfl ((by omega : k < 20)) (by first | decide | omega) rfl ?_
              refine wp_iload_n rfl rfl ?_
              refine wp_icmp_ne (tgt := 266) rfl (by decide) ?_ ?_
              · intro h
                rw [E2 (fun q => h q.2)] at ih'
                refine wp_inc rfl rfl (by decide) ?_
                refine wp_goto (tgt := 224) rfl (by decide) ?_
                exact ih' d1 hf1 hR1
              · intro h252
                rw [E1 h241 h252] at ih'
                refine wp_aload_n rfl rfl ?_
                refine st_getR rfl fX6_53 rfl (by assumption) (by assumption) ?_
                refine wp_iload rfl rfl ?_
                refine wp_iconst (v := 0) rfl (by decide) ?_
                refine st_iast rfl (by assumption) (by omega) rfl ((by omega : k < 20)) (by first | decide | omega) ?_
                refine wp_inc rfl rfl (by decide) ?_
                refine wp_inc rfl rfl (by decide) ?_
                refine wp_goto (tgt := 224) rfl (by decide) ?_
                exact ih' _ (rFr_hu hf1 (by omega)) (rS_off hR1 hkt (by decide))
      refine wp_iconst (v := 0) rfl (by decide) ?_
      refine wp_istore rfl (by decide) ?_
      refine wp_iconst (v := 0) rfl (by decide) ?_
      refine wp_istore rfl (by decide) ?_
      exact loop tc 0 d (by omega) (rFr_refl _ _) hR
    · rw [aLease, cIf_f ha]
      have loop : ∀ n k, k + n = tc → Wp X kX6_act K z 224 [some (.inr (some Y)), some (.inl x), some (.inl a), some (.inl b), some (.inl c), some (.inl e), some (.inl 0), some (.inl (nI k))] [] (K, z, kd, d, r) (rPs K z kd r d Y ((wc, tc, quo, cap, g, bd), 0)) := by
        intro n
        induction n with
        | zero =>
          intro k hk
          have : k = tc := by omega
          subst this
          refine wp_iload rfl rfl ?_
          refine wp_aload_n rfl rfl ?_
          refine st_getI rfl fX6_121 rfl (by assumption) (e16) ?_
          refine wp_icmp_ge (tgt := 272) rfl (by decide) ?_ ?_
          · intro _
            refine wp_iload rfl rfl ?_
            refine wp_ireturn rfl .int rfl rfl ?_
            exact same 0
          · intro h
            exact absurd (nI_le (Nat.le_refl _) (by omega)) h
        | succ n ih =>
          intro k hk
          have hkt : k < tc := by omega
          obtain ⟨t0, t1, t2, t3, t4, t5, t7, t6⟩ := hT k hkt
          refine wp_iload rfl rfl ?_
          refine wp_aload_n rfl rfl ?_
          refine st_getI rfl fX6_121 rfl (by assumption) (e16) ?_
          refine wp_icmp_ge (tgt := 272) rfl (by decide) ?_ ?_
          · intro h
            exact absurd h (nI_ge hkt (by omega))
          · intro _
            refine wp_aload_n rfl rfl ?_
            refine st_getR rfl fX6_53 rfl (by assumption) (by assumption) ?_
            refine wp_iload rfl rfl ?_
            refine st_iald rfl (by assumption) rfl ((by omega : k < 20)) (by first | decide | omega) (t4) ?_
            refine wp_iconst (v := 1) rfl (by decide) ?_
            refine wp_icmp_ne (tgt := 266) rfl (by decide) ?_ ?_
            · intro h
              refine wp_inc rfl rfl (by decide) ?_
              refine wp_goto (tgt := 224) rfl (by decide) ?_
              exact ih (k + 1) (by omega)
            · intro h241
              refine wp_aload_n rfl rfl ?_
              refine st_getR rfl fX6_59 rfl (by assumption) (by assumption) ?_
              refine wp_iload rfl rfl ?_
              refine st_iald rfl (by assumption) rfl ((by omega : k < 20)) (by first | decide | omega) rfl ?_
              refine wp_iload_n rfl rfl ?_
              refine wp_icmp_ne (tgt := 266) rfl (by decide) ?_ ?_
              · intro h
                refine wp_inc rfl rfl (by decide) ?_
                refine wp_goto (tgt := 224) rfl (by decide) ?_
                exact ih (k + 1) (by omega)
              · intro h252
                obtain ⟨w, hw, ew⟩ := (hF.2.1 k hkt).2.1 h241
                exact absurd ⟨w, Nat.zero_le _, hw, by rw [← h252, t6 h241]; exact ew⟩ ha
      refine wp_iconst (v := 0) rfl (by decide) ?_
      refine wp_istore rfl (by decide) ?_
      refine wp_iconst (v := 0) rfl (by decide) ?_
      refine wp_istore rfl (by decide) ?_
      exact loop tc 0 (by omega)
  refine wp_iload_n rfl rfl ?_
  rcases h_sw x 8 (by decide) with ⟨j, hj, rfl⟩ | hout
  · rcases (show j = 0 ∨ j = 1 ∨ j = 2 ∨ j = 3 ∨ j = 4 ∨ j = 5 ∨ j = 6 ∨ j = 7 by omega) with rfl | rfl | rfl | rfl | rfl | rfl | rfl | rfl
    · refine wp_tabIn (off := 47) (tgt := 48) rfl (by decide) (by decide) rfl (by decide) ?_
      exact c0
    · refine wp_tabIn (off := 77) (tgt := 78) rfl (by decide) (by decide) rfl (by decide) ?_
      exact c1
    · refine wp_tabIn (off := 125) (tgt := 126) rfl (by decide) (by decide) rfl (by decide) ?_
      refine wp_aload_n rfl rfl ?_
      refine wp_iload_n rfl rfl ?_
      refine wp_iload_n rfl rfl ?_
      refine wp_iload rfl rfl ?_
      refine wp_iload rfl rfl ?_
      refine wp_V4 rfl mX6_act_128 (k0) (Nat.le_of_ble_eq_true rfl) (r_come hS hR hF) ?_
      intro rv M1 h
      have h5 := h
      obtain ⟨rfl, -⟩ := h5
      exact wp_ireturn rfl .int rfl rfl h
    · refine wp_tabIn (off := 136) (tgt := 137) rfl (by decide) (by decide) rfl (by decide) ?_
      refine wp_aload_n rfl rfl ?_
      refine wp_V0 rfl mX6_act_132 (k0) (Nat.le_of_ble_eq_true rfl) (r_placing hS hR hF) ?_
      intro rv M1 h
      have h5 := h
      obtain ⟨rfl, -⟩ := h5
      exact wp_ireturn rfl .int rfl rfl h
    · refine wp_tabIn (off := 141) (tgt := 142) rfl (by decide) (by decide) rfl (by decide) ?_
      exact c4
    · refine wp_tabIn (off := 188) (tgt := 189) rfl (by decide) (by decide) rfl (by decide) ?_
      exact c5
    · refine wp_tabIn (off := 217) (tgt := 218) rfl (by decide) (by decide) rfl (by decide) ?_
      exact c6
    · refine wp_tabIn (off := 274) (tgt := 275) rfl (by decide) (by decide) rfl (by decide) ?_
      exact c7
  · refine wp_tabOut (tgt := 305) rfl hout (by decide) ?_
    have nj : ∀ i, i < 8 → ¬ x = nI i := fun i hi ei => by
      rw [ei, i_nI (by omega)] at hout
      omega
    refine wp_iconst (v := -1) rfl (by decide) ?_
    refine wp_ireturn rfl .int rfl rfl ?_
    rw [sAct, if_neg (nj 0 (by omega)), if_neg (nj 1 (by omega)), if_neg (nj 2 (by omega)), if_neg (nj 3 (by omega)), if_neg (nj 4 (by omega)), if_neg (nj 5 (by omega)), if_neg (nj 6 (by omega)), if_neg (nj 7 (by omega))]
    exact same (-1)
/-- what the last of the first n orders answers -/
noncomputable def anL (G : Nat → Nat → Int32) : Nat → Int32
  | 0 => 0
  | k + 1 => anS G k
theorem r_replay {m n : Nat} {G : Nat → Nat → Int32} (hS : rs kd r Y) (hm : m < 5) (hn : n ≤ 60) (hG : ∀ k, k < n → ∀ j, j < 7 → d (Y + 7) (420 * m + 7 * k + j) = G k j) : Cl X kX6_replay [.inr (some Y), .inl (nI m), .inl (nI n)] (K, z, kd, d, r) (rPs K z kd r d Y (rnS G n, anL G n)) := by
  obtain ⟨k0, r2, r3, r4, r5, r6, r7, r8, r12, r13, r15, r17, r18, r19, r20, r21, r22, r23, r24, r25, k1, k2, k3, k4, k5, k6, k7, k8, k9, k10, k11, k12, k13, k14, k15, k16, k17, k18, k19, hY⟩ := id hS
  refine h_ofWp oX6_replay (by decide) (Nat.le_of_ble_eq_true rfl) ?_
  have loop : ∀ l k d1 x5, k + l = n → rFr Y d d1 → rS d1 Y (rnS G k) → Wp X kX6_replay K z 35 [some (.inr (some Y)), some (.inl (nI m)), some (.inl (nI n)), some (.inl (anL G k)), some (.inl (nI k)), x5] [] (K, z, kd, d1, r) (rPs K z kd r d Y (rnS G n, anL G n)) := by
    intro l
    induction l with
    | zero =>
      intro k d1 x5 hk hf1 hR1
      have : k = n := by omega
      subst this
      refine wp_iload rfl rfl ?_
      refine wp_iload_n rfl rfl ?_
      refine wp_icmp_ge (tgt := 110) rfl (by decide) ?_ ?_
      · intro _
        refine wp_iload_n rfl rfl ?_
        refine wp_ireturn rfl .int rfl rfl ?_
        exact ⟨rfl, d1, rfl, hf1, hR1⟩
      · intro h
        exact absurd (nI_le (Nat.le_refl _) (by omega)) h
    | succ l ih =>
      intro k d1 x5 hk hf1 hR1
      have hkn : k < n := by omega
      have hlog : ∀ j, j < 7 → d1 (Y + 7) (420 * m + 7 * k + j) = G k j := fun j hj => (hf1 _ _ (by omega) (by omega)).trans (hG k hkn j hj)
      have hix : (420 : Int32) * nI m + 7 * nI k + 2 = nI (420 * m + 7 * k + 2) := by
        have a1 : (420 : Int32) * nI m = nI (420 * m) := pk_mul 420 m
        have a2 : (7 : Int32) * nI k = nI (7 * k) := pk_mul 7 k
        have a3 : nI (420 * m + 7 * k) + 2 = nI (420 * m + 7 * k + 2) := nI_add _ 2
        rw [a1, a2, nI_add, a3]
      have hact : Cl X kX6_act [.inr (some Y), .inl (G k 2), .inl (G k 3), .inl (G k 4), .inl (G k 5), .inl (G k 6)] (K, z, kd, d1, r) (rPs K z kd r d1 Y (sAct (rnS G k) (G k 2) (G k 3) (G k 4) (G k 5) (G k 6))) := r_act hS hR1 (rnS_wf G k)
      refine wp_iload rfl rfl ?_
      refine wp_iload_n rfl rfl ?_
      refine wp_icmp_ge (tgt := 110) rfl (by decide) ?_ ?_
      · intro h
        exact absurd h (nI_ge hkn (by omega))
      · intro _
        refine wp_sipush (v := 420) rfl (by decide) ?_
        refine wp_iload_n rfl rfl ?_
        refine wp_imul rfl ?_
        refine wp_bipush (v := 7) rfl (by decide) ?_
        refine wp_iload rfl rfl ?_
        refine wp_imul rfl ?_
        refine wp_iadd rfl ?_
        refine wp_iconst (v := 2) rfl (by decide) ?_
        refine wp_iadd rfl ?_
        rw [hix]
        refine wp_istore rfl (by decide) ?_
        refine wp_aload_n rfl rfl ?_
        refine wp_aload_n rfl rfl ?_
        refine st_getR rfl fX6_29 rfl (by assumption) (by assumption) ?_
        refine wp_iload rfl rfl ?_
        refine st_iald rfl (by assumption) rfl (by omega) (by first | decide | omega) (hlog 2 (by omega)) ?_
        refine wp_aload_n rfl rfl ?_
        refine st_getR rfl fX6_29 rfl (by assumption) (by assumption) ?_
        refine wp_iload rfl rfl ?_
        refine wp_iconst (v := 1) rfl (by decide) ?_
        refine wp_iadd rfl ?_
        refine st_iald rfl (by assumption) (nI_add _ 1) (by omega) (by first | decide | omega) (hlog 3 (by omega)) ?_
        refine wp_aload_n rfl rfl ?_
        refine st_getR rfl fX6_29 rfl (by assumption) (by assumption) ?_
        refine wp_iload rfl rfl ?_
        refine wp_iconst (v := 2) rfl (by decide) ?_
        refine wp_iadd rfl ?_
        refine st_iald rfl (by assumption) (nI_add _ 2) (by omega) (by first | decide | omega) (hlog 4 (by omega)) ?_
        refine wp_aload_n rfl rfl ?_
        refine st_getR rfl fX6_29 rfl (by assumption) (by assumption) ?_
        refine wp_iload rfl rfl ?_
        refine wp_iconst (v := 3) rfl (by decide) ?_
        refine wp_iadd rfl ?_
        refine st_iald rfl (by assumption) (nI_add _ 3) (by omega) (by first | decide | omega) (hlog 5 (by omega)) ?_
        refine wp_aload_n rfl rfl ?_
        refine st_getR rfl fX6_29 rfl (by assumption) (by assumption) ?_
        refine wp_iload rfl rfl ?_
        refine wp_iconst (v := 4) rfl (by decide) ?_
        refine wp_iadd rfl ?_
        refine st_iald rfl (by assumption) (nI_add _ 4) (by omega) (by first | decide | omega) (hlog 6 (by omega)) ?_
        refine wp_V5 rfl mX6_replay_124 (k0) (Nat.le_of_ble_eq_true rfl) (hact) ?_
        rintro _ _ ⟨rfl, d2, rfl, hf2, hR2⟩
        refine wp_istore_n rfl (by decide) ?_
        refine wp_inc rfl rfl (by decide) ?_
        refine wp_goto (tgt := 35) rfl (by decide) ?_
        exact ih (k + 1) d2 _ (by omega) (rFr_trans hf1 hf2) hR2
  have first : ∀ l u d1, u + l = 4 → rFr Y d d1 → d1 Y 14 = 0 → d1 Y 16 = 0 → (∀ v, v < u → d1 (Y + 9) v = 0) → Wp X kX6_replay K z 12 [some (.inr (some Y)), some (.inl (nI m)), some (.inl (nI n)), some (.inl (nI u)), none, none] [] (K, z, kd, d1, r) (rPs K z kd r d Y (rnS G n, anL G n)) := by
    intro l
    induction l with
    | zero =>
      intro u d1 hu hf1 h14 h16 hv
      have : u = 4 := by omega
      subst this
      refine wp_iload_n rfl rfl ?_
      refine wp_iconst (v := 4) rfl (by decide) ?_
      refine wp_icmp_ge (tgt := 30) rfl (by decide) ?_ ?_
      · intro _
        refine wp_iconst (v := 0) rfl (by decide) ?_
        refine wp_istore_n rfl (by decide) ?_
        refine wp_iconst (v := 0) rfl (by decide) ?_
        refine wp_istore rfl (by decide) ?_
        exact loop n 0 d1 _ (by omega) hf1 ⟨h14, h16, hv, fun w hw => absurd hw (Nat.not_lt_zero w), fun t ht => absurd ht (Nat.not_lt_zero t)⟩
      · intro h
        exact absurd (show (4 : Int32) ≤ nI 4 by decide) h
    | succ l ih =>
      intro u d1 hu hf1 h14 h16 hv
      have hu4 : u < 4 := by omega
      refine wp_iload_n rfl rfl ?_
      refine wp_iconst (v := 4) rfl (by decide) ?_
      refine wp_icmp_ge (tgt := 30) rfl (by decide) ?_ ?_
      · intro h
        exact absurd h (nI_ge (b := 4) hu4 (by omega))
      · intro _
        refine wp_aload_n rfl rfl ?_
        refine st_getR rfl fX6_35 rfl (by assumption) (by assumption) ?_
        refine wp_iload_n rfl rfl ?_
        refine wp_iconst (v := 0) rfl (by decide) ?_
        refine st_iast rfl (by assumption) (by omega) rfl (hu4) (by first | decide | omega) ?_
        refine wp_inc rfl rfl (by decide) ?_
        refine wp_goto (tgt := 12) rfl (by decide) ?_
        refine ih (u + 1) _ (by omega) (rFr_hu hf1 (by omega)) ((hu_n (by omega)).trans h14) ((hu_n (by omega)).trans h16) (fun v hvu => ?_)
        by_cases e : v = u
        · subst e; exact hu_s
        · rw [hu_n (by omega)]; exact hv v (by omega)
  refine wp_aload_n rfl rfl ?_
  refine wp_iconst (v := 0) rfl (by decide) ?_
  refine st_putI rfl fX6_118 rfl rfl ⟨rfl, rfl⟩ (by assumption) ?_
  refine wp_aload_n rfl rfl ?_
  refine wp_iconst (v := 0) rfl (by decide) ?_
  refine st_putI rfl fX6_121 rfl rfl ⟨rfl, rfl⟩ (by assumption) ?_
  refine wp_iconst (v := 0) rfl (by decide) ?_
  refine wp_istore_n rfl (by decide) ?_
  exact first 4 0 _ rfl (fun q j q1 q2 => by rw [hu_n (by omega), hu_n (by omega)]) (by rw [hu_n (by omega), hu_s]) hu_s (fun v hv => absurd hv (Nat.not_lt_zero v))
end RACT
