/-! THE CLASS'S SCHEDULER: a new task, placing, any order -/
noncomputable def sPk (quo cap : Nat → Int32) (wc tc : Nat) (g0 : Nat → Nat → Int32) (q : Int32) : Nat → (Nat → Nat → Int32) × Nat → (Nat → Nat → Int32) × Nat
  | 0, s => s
  | k + 1, s => if g0 k 4 = 0 ∧ (sPk quo cap wc tc g0 q k s).1 k 2 = q then (match sTry quo cap (sPk quo cap wc tc g0 q k s).1 wc tc k with | none => sPk quo cap wc tc g0 q k s | some g' => (g', (sPk quo cap wc tc g0 q k s).2 + 1)) else sPk quo cap wc tc g0 q k s
noncomputable def sPo (quo cap : Nat → Int32) (wc tc : Nat) (g0 : Nat → Nat → Int32) : Nat → (Nat → Nat → Int32) × Nat
  | 0 => (g0, 0)
  | j + 1 => sPk quo cap wc tc g0 (nI (3 - j)) tc (sPo quo cap wc tc g0 j)
noncomputable def aPlace (S : Sch) : Sch × Int32 := ((S.1, S.2.1, S.2.2.1, S.2.2.2.1, (sPo S.2.2.1 S.2.2.2.1 S.1 S.2.1 S.2.2.2.2.1 4).1, S.2.2.2.2.2), nI (sPo S.2.2.1 S.2.2.2.1 S.1 S.2.1 S.2.2.2.2.1 4).2)
noncomputable def sAct (S : Sch) (x a b c e : Int32) : Sch × Int32 :=
  if x = nI 0 then aQuota S a b else if x = nI 1 then aWork S a else if x = nI 2 then aTask S a b c e else if x = nI 3 then aPlace S else if x = nI 4 then aFin S a b c else if x = nI 5 then aCan S a else if x = nI 6 then aLease S a else if x = nI 7 then aStand S a else (S, -1)
theorem gEv_f (l : List Nat) : ∀ (g : Nat → Nat → Int32) (t j : Nat), j ≠ 4 → j ≠ 6 → gEv g l t j = g t j := by
  induction l with
  | nil => intro g t j _ _; rfl
  | cons x l ih =>
    intro g t j h4 h6
    show gEv (hu (hu g x 4 0) x 6 (-1)) l t j = g t j
    rw [ih _ t j h4 h6, hu_n (by omega), hu_n (by omega)]
theorem gBeg_f (g : Nat → Nat → Int32) (x : Nat) (w : Int32) (t j : Nat) (h4 : j ≠ 4) (h5 : j ≠ 5) (h6 : j ≠ 6) : gBeg g x w t j = g t j := by
  rw [gBeg, hu_n (by omega), hu_n (by omega), hu_n (by omega)]
theorem sTry_f {quo cap : Nat → Int32} {g g' : Nat → Nat → Int32} {wc tc x : Nat} (h : sTry quo cap g wc tc x = some g') (t j : Nat) (h4 : j ≠ 4) (h5 : j ≠ 5) (h6 : j ≠ 6) : g' t j = g t j := by
  by_cases hm : sMay quo g tc x
  · rw [sTry_may hm] at h
    split at h
    · split at h
      · cases h
      · cases h
        rw [gBeg_f _ _ _ _ _ h4 h5 h6, gEv_f _ _ _ _ h4 h6]
    · cases h
      rw [gBeg_f _ _ _ _ _ h4 h5 h6]
  · rw [sTry_not hm] at h
    cases h
theorem sPk_f {quo cap : Nat → Int32} {wc tc : Nat} {g0 : Nat → Nat → Int32} {q : Int32} (s : (Nat → Nat → Int32) × Nat) (t j : Nat) (h4 : j ≠ 4) (h5 : j ≠ 5) (h6 : j ≠ 6) : ∀ k, (sPk quo cap wc tc g0 q k s).1 t j = s.1 t j := by
  intro k
  induction k with
  | zero => rfl
  | succ k ih =>
    simp only [sPk]
    split
    · split
      · exact ih
      · rename_i h
        exact (sTry_f h t j h4 h5 h6).trans ih
    · exact ih
theorem sPo_f {quo cap : Nat → Int32} {wc tc : Nat} {g0 : Nat → Nat → Int32} (t j : Nat) (h4 : j ≠ 4) (h5 : j ≠ 5) (h6 : j ≠ 6) : ∀ k, (sPo quo cap wc tc g0 k).1 t j = g0 t j := by
  intro k
  induction k with
  | zero => rfl
  | succ k ih => exact (sPk_f _ t j h4 h5 h6 _).trans ih
/-- the tasks' users and priorities are such -/
def sOk (S : Sch) : Prop := S.1 ≤ 6 ∧ S.2.1 ≤ 20 ∧ ∀ t, t < S.2.1 → (∃ u, u < 4 ∧ S.2.2.2.2.1 t 0 = nI u) ∧ ∃ q, q < 4 ∧ S.2.2.2.2.1 t 2 = nI q
section ANSWER
variable {X : hX} {K z : Nat} {kd : Nat → Option hK} {d : Nat → Nat → Int32} {r : Nat → Nat → Option Nat} {p : Nat} {S : Sch} {a b c e : Int32}
theorem c_addTask (hs : sc kd r p) (hR : sR d p S) (h20 : S.2.1 ≤ 20) : Cl X kX3_addTask [.inr (some p), .inl a, .inl b, .inl c, .inl e] (K, z, kd, d, r) (sPs K z kd r d p (aTask S a b c e)) := by
  obtain ⟨wc, tc, quo, cap, g, bd⟩ := S
  obtain ⟨k0, r0, r1, r2, r3, r4, r5, k1, k2, k3, k4, k5, k6, rt, kt, hp⟩ := hs
  have hR0 := hR
  obtain ⟨hwc, htc, e1, e2, e3, e4⟩ := hR
  dsimp only at hwc htc e1 e2 e3 e4 h20
  subst e1 e2 e3 e4
  refine h_ofWp oX3_addTask (by decide) (Nat.le_of_ble_eq_true rfl) ?_
  generalize hQ : sPs K z kd r d p (aTask (wc, tc, d (p + 1), d (p + 3), tk d p, d (p + 2)) a b c e) = Q
  have no : ¬ ((inR a 0 4 ∧ inR b 1 21 ∧ inR c 0 4 ∧ (e = -1 ∨ inR e 0 tc)) ∧ tc < 20) → Q (some (.inl (-1))) (K, z, kd, d, r) := fun h => by
    rw [← hQ, aTask, cIf_f h]
    exact sPs_same hR0
  have bad : ¬ (inR a 0 4 ∧ inR b 1 21 ∧ inR c 0 4 ∧ (e = -1 ∨ inR e 0 tc)) → Wp X kX3_addTask K z 44 [some (.inr (some p)), some (.inl a), some (.inl b), some (.inl c), some (.inl e), none, none] [] (K, z, kd, d, r) Q := by
    intro h
    refine wp_iconst (v := 0) rfl (by decide) ?_
    refine wp_istore rfl (by decide) ?_
    refine wp_iload rfl rfl ?_
    refine wp_if_eq (tgt := 61) rfl (by decide) ?_ ?_
    · intro h49
      refine wp_iconst (v := -1) rfl (by decide) ?_
      refine wp_ireturn rfl .int rfl rfl ?_
      exact no (fun hc => h hc.1)
    · intro h49
      exact absurd rfl h49
  have good : (inR a 0 4 ∧ inR b 1 21 ∧ inR c 0 4 ∧ (e = -1 ∨ inR e 0 tc)) → Wp X kX3_addTask K z 40 [some (.inr (some p)), some (.inl a), some (.inl b), some (.inl c), some (.inl e), none, none] [] (K, z, kd, d, r) Q := by
    intro hg
    refine wp_iconst (v := 1) rfl (by decide) ?_
    refine wp_goto (tgt := 45) rfl (by decide) ?_
    refine wp_istore rfl (by decide) ?_
    refine wp_iload rfl rfl ?_
    refine wp_if_eq (tgt := 61) rfl (by decide) ?_ ?_
    · intro h
      exact absurd h (by decide)
    · intro _
      refine wp_aload_n rfl rfl ?_
      refine st_getI rfl fX3_37 rfl (by assumption) (htc) ?_
      refine wp_bipush (v := 20) rfl (by decide) ?_
      refine wp_icmp_lt (tgt := 63) rfl (by decide) ?_ ?_
      · intro h
        have ht : tc < 20 := by
          rw [i_lt, i_nI (by omega), show (20 : Int32).toInt = 20 by decide] at h
          omega
        have ka := kt tc ht
        refine wp_aload_n rfl rfl ?_
        refine st_getR rfl fX3_21 rfl (by assumption) (by assumption) ?_
        refine wp_aload_n rfl rfl ?_
        refine st_getI rfl fX3_37 rfl (by assumption) (htc) ?_
        refine st_aald (t0 := 4) rfl (by assumption) rfl rfl (by omega) (by decide) (rt _ ht) ?_
        refine wp_astore rfl (by decide) ?_
        refine wp_aload rfl rfl ?_
        refine wp_iload_n rfl rfl ?_
        refine st_putI rfl fX3_104 rfl rfl ⟨rfl, rfl⟩ (ka) ?_
        refine wp_aload rfl rfl ?_
        refine wp_iload_n rfl rfl ?_
        refine st_putI rfl fX3_107 rfl rfl ⟨rfl, rfl⟩ (ka) ?_
        refine wp_aload rfl rfl ?_
        refine wp_iload_n rfl rfl ?_
        refine st_putI rfl fX3_110 rfl rfl ⟨rfl, rfl⟩ (ka) ?_
        refine wp_aload rfl rfl ?_
        refine wp_iload rfl rfl ?_
        refine st_putI rfl fX3_113 rfl rfl ⟨rfl, rfl⟩ (ka) ?_
        refine wp_aload_n rfl rfl ?_
        refine wp_dup rfl ?_
        refine st_getI rfl fX3_37 rfl (by assumption) (((congrFun (row_n (by omega)) 7).trans ((congrFun (row_n (by omega)) 7).trans ((congrFun (row_n (by omega)) 7).trans ((congrFun (row_n (by omega)) 7).trans htc))))) ?_
        refine wp_iconst (v := 1) rfl (by decide) ?_
        refine wp_iadd rfl ?_
        refine st_putI rfl fX3_37 rfl rfl ⟨rfl, rfl⟩ (by assumption) ?_
        refine wp_aload_n rfl rfl ?_
        refine st_getI rfl fX3_37 rfl (by assumption) (hu_s) ?_
        refine wp_iconst (v := 1) rfl (by decide) ?_
        refine wp_isub rfl ?_
        refine wp_ireturn rfl .int rfl rfl ?_
        rw [← hQ, aTask, cIf_t ⟨hg, ht⟩]
        refine ⟨?_, _, rfl, fun q hq => ?_, ?_⟩
        · show some (Sum.inl (nI tc + 1 - 1)) = some (Sum.inl (nI tc))
          rw [nI_1, nI_pred]
        · rw [row_n (by omega), row_n (by omega), row_n (by omega), row_n (by omega), row_n (by omega)]
        · refine ⟨?_, ?_, ?_, ?_, ?_, ?_⟩
          · rw [hu_n (by omega), row_n (by omega), row_n (by omega), row_n (by omega), row_n (by omega)]; exact hwc
          · rw [hu_s]; exact nI_1 tc
          · rw [row_n (by omega), row_n (by omega), row_n (by omega), row_n (by omega), row_n (by omega)]
          · rw [row_n (by omega), row_n (by omega), row_n (by omega), row_n (by omega), row_n (by omega)]
          · rw [tk_o (by omega), tk_hu, tk_hu, tk_hu, tk_hu]
          · rw [row_n (by omega), row_n (by omega), row_n (by omega), row_n (by omega), row_n (by omega)]
      · intro h
        refine wp_iconst (v := -1) rfl (by decide) ?_
        refine wp_ireturn rfl .int rfl rfl ?_
        exact no (fun hc => h (by
          rw [i_lt, i_nI (by omega), show (20 : Int32).toInt = 20 by decide]
          have := hc.2
          omega))
  refine wp_aload_n rfl rfl ?_
  refine wp_iload_n rfl rfl ?_
  refine wp_V1 rfl mX3_addTask_86 (k0) (Nat.le_of_ble_eq_true rfl) (c_isUser) ?_
  rintro _ _ ⟨v, rfl, rfl, hv⟩
  rcases rg_1 hv with ⟨rfl, ha⟩ | ⟨rfl, ha⟩
  · refine wp_if_eq (tgt := 44) rfl (by decide) ?_ ?_
    · intro h
      exact absurd h (by decide)
    · intro _
      refine wp_aload_n rfl rfl ?_
      refine wp_iload_n rfl rfl ?_
      refine wp_V1 rfl mX3_addTask_98 (k0) (Nat.le_of_ble_eq_true rfl) (c_isSize) ?_
      rintro _ _ ⟨v, rfl, rfl, hv⟩
      rcases rg_1 hv with ⟨rfl, hb⟩ | ⟨rfl, hb⟩
      · refine wp_if_eq (tgt := 44) rfl (by decide) ?_ ?_
        · intro h
          exact absurd h (by decide)
        · intro _
          refine wp_iload_n rfl rfl ?_
          refine wp_if_lt (tgt := 44) rfl (by decide) ?_ ?_
          · intro h
            exact bad (fun hc => by obtain ⟨j, -, hj, rfl⟩ := hc.2.2.1; exact nI_pos (n := j) (by omega) h)
          · intro h17
            refine wp_iload_n rfl rfl ?_
            refine wp_iconst (v := 3) rfl (by decide) ?_
            refine wp_icmp_gt (tgt := 44) rfl (by decide) ?_ ?_
            · intro h
              exact bad (fun hc => by
                obtain ⟨j, -, hj, rfl⟩ := hc.2.2.1
                rw [i_lt, i_nI (by omega), show (3 : Int32).toInt = 3 by decide] at h
                omega)
            · intro h22
              have hc : inR c 0 4 := by
                obtain ⟨j, hj, rfl⟩ := nI_of h17
                refine ⟨j, Nat.zero_le _, ?_, rfl⟩
                rw [i_lt, i_nI (by omega), show (3 : Int32).toInt = 3 by decide] at h22
                omega
              refine wp_iload rfl rfl ?_
              refine wp_iconst (v := -1) rfl (by decide) ?_
              refine wp_icmp_eq (tgt := 40) rfl (by decide) ?_ ?_
              · intro h
                exact good ⟨ha, hb, hc, Or.inl h⟩
              · intro h28
                refine wp_aload_n rfl rfl ?_
                refine wp_iload rfl rfl ?_
                refine wp_V1 rfl mX3_addTask_101 (k0) (Nat.le_of_ble_eq_true rfl) (c_isTask k0 htc (by omega)) ?_
                rintro _ _ ⟨v, rfl, rfl, hv⟩
                rcases rg_1 hv with ⟨rfl, he⟩ | ⟨rfl, he⟩
                · refine wp_if_eq (tgt := 44) rfl (by decide) ?_ ?_
                  · intro h
                    exact absurd h (by decide)
                  · intro _
                    exact good ⟨ha, hb, hc, Or.inr he⟩
                · refine wp_if_eq (tgt := 44) rfl (by decide) ?_ ?_
                  · intro _
                    exact bad (fun h => h.2.2.2.elim h28 he)
                  · intro h
                    exact absurd rfl h
      · refine wp_if_eq (tgt := 44) rfl (by decide) ?_ ?_
        · intro _
          exact bad (fun h => hb h.2.1)
        · intro h
          exact absurd rfl h
  · refine wp_if_eq (tgt := 44) rfl (by decide) ?_ ?_
    · intro _
      exact bad (fun h => ha h.1)
    · intro h
      exact absurd rfl h
theorem c_placeTasks (hs : sc kd r p) (hR : sR d p S) (hO : sOk S) : Cl X kX3_placeTasks [.inr (some p)] (K, z, kd, d, r) (sPs K z kd r d p (aPlace S)) := by
  obtain ⟨wc, tc, quo, cap, g, bd⟩ := S
  have hs0 := hs
  obtain ⟨k0, r0, r1, r2, r3, r4, r5, k1, k2, k3, k4, k5, k6, rt, kt, hp⟩ := hs
  obtain ⟨hwc, htc, e1, e2, e3, e4⟩ := hR
  obtain ⟨h6, h20, hO⟩ := hO
  dsimp only at hwc htc e1 e2 e3 e4 h20 h6 hO
  subst e1 e2 e3 e4
  refine h_ofWp oX3_placeTasks (by decide) (Nat.le_of_ble_eq_true rfl) ?_
  generalize hQ : sPs K z kd r d p (aPlace (wc, tc, d (p + 1), d (p + 3), tk d p, d (p + 2))) = Q
  -- the walk over one priority
  have inner : ∀ (m : Nat), m < 4 → ∀ (s0 : (Nat → Nat → Int32) × Nat), (∀ t j, j ≠ 4 → j ≠ 5 → j ≠ 6 → s0.1 t j = tk d p t j) →
      (∀ d', (∀ q, q ≠ p + 5 → q ≠ p + 6 → (q < p + 7 ∨ p + 27 ≤ q) → d' q = d q) → (∀ i, i < tc → d' (p + 5) i = if tk d p i 4 = 0 then 1 else 0) → tk d' p = (sPk (d (p + 1)) (d (p + 3)) wc tc (tk d p) (nI m) tc s0).1 →
        Wp X kX3_placeTasks K z 101 [some (.inr (some p)), some (.inl (nI (sPk (d (p + 1)) (d (p + 3)) wc tc (tk d p) (nI m) tc s0).2)), some (.inl (nI m)), some (.inl (nI tc))] [] (K, z, kd, d', r) Q) →
      ∀ n k d', k + n = tc → (∀ q, q ≠ p + 5 → q ≠ p + 6 → (q < p + 7 ∨ p + 27 ≤ q) → d' q = d q) → (∀ i, i < tc → d' (p + 5) i = if tk d p i 4 = 0 then 1 else 0) → tk d' p = (sPk (d (p + 1)) (d (p + 3)) wc tc (tk d p) (nI m) k s0).1 →
        Wp X kX3_placeTasks K z 49 [some (.inr (some p)), some (.inl (nI (sPk (d (p + 1)) (d (p + 3)) wc tc (tk d p) (nI m) k s0).2)), some (.inl (nI m)), some (.inl (nI k))] [] (K, z, kd, d', r) Q := by
    intro m hm s0 hs0f fin n
    induction n with
    | zero =>
      intro k d' hk hd hw ht
      have : k = tc := by omega
      subst this
      refine wp_iload_n rfl rfl ?_
      refine wp_aload_n rfl rfl ?_
      refine st_getI rfl fX3_37 rfl (by assumption) ((congrFun (hd p (by omega) (by omega) (by omega)) 7).trans htc) ?_
      refine wp_icmp_ge (tgt := 101) rfl (by decide) ?_ ?_
      · intro _
        exact fin d' hd hw ht
      · intro h
        exact absurd (nI_le (by omega) (by omega)) h
    | succ n ih =>
      intro k d' hk hd hw ht
      have hf : ∀ t j, d' (p + 7 + t) j = (sPk (d (p + 1)) (d (p + 3)) wc tc (tk d p) (nI m) k s0).1 t j := fun t j => congrFun (congrFun ht t) j
      obtain ⟨⟨u, hu4, eu⟩, pq, hq4, eq⟩ := hO k (by omega)
      have f0 : d' (p + 7 + k) 0 = nI u := by rw [hf, sPk_f _ _ _ (by decide) (by decide) (by decide), hs0f _ _ (by decide) (by decide) (by decide)]; exact eu
      have f2 : d' (p + 7 + k) 2 = nI pq := by rw [hf, sPk_f _ _ _ (by decide) (by decide) (by decide), hs0f _ _ (by decide) (by decide) (by decide)]; exact eq
      refine wp_iload_n rfl rfl ?_
      refine wp_aload_n rfl rfl ?_
      refine st_getI rfl fX3_37 rfl (by assumption) ((congrFun (hd p (by omega) (by omega) (by omega)) 7).trans htc) ?_
      refine wp_icmp_ge (tgt := 101) rfl (by decide) ?_ ?_
      · intro h
        exact absurd h (nI_ge (by omega) (by omega))
      · intro _
        have skip : ¬ (tk d p k 4 = 0 ∧ (sPk (d (p + 1)) (d (p + 3)) wc tc (tk d p) (nI m) k s0).1 k 2 = nI m) → Wp X kX3_placeTasks K z 95 [some (.inr (some p)), some (.inl (nI (sPk (d (p + 1)) (d (p + 3)) wc tc (tk d p) (nI m) k s0).2)), some (.inl (nI m)), some (.inl (nI k))] [] (K, z, kd, d', r) Q := by
          intro hc
          have e : sPk (d (p + 1)) (d (p + 3)) wc tc (tk d p) (nI m) (k + 1) s0 = sPk (d (p + 1)) (d (p + 3)) wc tc (tk d p) (nI m) k s0 := if_neg hc
          refine wp_inc rfl rfl (by decide) ?_
          refine wp_goto (tgt := 49) rfl (by decide) ?_
          have := ih (k + 1) d' (by omega) hd hw (by rw [e]; exact ht)
          rw [e] at this
          exact this
        refine wp_aload_n rfl rfl ?_
        refine st_getR rfl fX3_25 rfl (by assumption) (by assumption) ?_
        refine wp_iload_n rfl rfl ?_
        refine st_zald rfl (by assumption) rfl (by omega) (by decide) (hw k (by omega)) ?_
        refine wp_if_eq (tgt := 95) rfl (by decide) ?_ ?_
        · intro h
          exact skip (fun hc => by rw [if_pos hc.1] at h; exact absurd h (by decide))
        · intro h
          have hw0 : tk d p k 4 = 0 := Classical.not_not.mp (fun hc => h (if_neg hc))
          refine wp_aload_n rfl rfl ?_
          refine st_getR rfl fX3_21 rfl (by assumption) (by assumption) ?_
          refine wp_iload_n rfl rfl ?_
          refine st_aald (t0 := 4) rfl (by assumption) rfl rfl (by omega) (by decide) (rt _ (by omega)) ?_
          refine st_getI rfl fX3_110 rfl (kt _ (by omega)) (hf k 2) ?_
          refine wp_iload_n rfl rfl ?_
          refine wp_icmp_ne (tgt := 95) rfl (by decide) ?_ ?_
          · intro h2
            exact skip (fun hc => h2 hc.2)
          · intro h2
            refine wp_aload_n rfl rfl ?_
            refine wp_aload_n rfl rfl ?_
            refine st_getR rfl fX3_21 rfl (by assumption) (by assumption) ?_
            refine wp_iload_n rfl rfl ?_
            refine st_aald (t0 := 4) rfl (by assumption) rfl rfl (by omega) (by decide) (rt _ (by omega)) ?_
            refine wp_V1 rfl mX3_placeTasks_135 (k0) (Nat.le_of_ble_eq_true rfl) (c_tryToBegin hs0 ((congrFun (hd p (by omega) (by omega) (by omega)) 7).trans htc) h20 ((congrFun (hd p (by omega) (by omega) (by omega)) 6).trans hwc) h6 (by omega) f0 hu4 f2 (by omega)) ?_
            rintro rv M' ⟨d2, rfl, hd2, hcase⟩
            rw [hd (p + 1) (by omega) (by omega) (by omega), hd (p + 3) (by omega) (by omega) (by omega), ht] at hcase
            have hdd : ∀ q, q ≠ p + 5 → q ≠ p + 6 → (q < p + 7 ∨ p + 27 ≤ q) → d2 q = d q := fun q h5 h6 h7 => (hd2 q h6 h7).trans (hd q h5 h6 h7)
            have hww : ∀ i, i < tc → d2 (p + 5) i = if tk d p i 4 = 0 then 1 else 0 := fun i hi => (congrFun (hd2 (p + 5) (by omega) (by omega)) i).trans (hw i hi)
            rcases hcase with ⟨hN, rfl, ht2⟩ | ⟨g', hN, rfl, ht2⟩
            · have e : sPk (d (p + 1)) (d (p + 3)) wc tc (tk d p) (nI m) (k + 1) s0 = sPk (d (p + 1)) (d (p + 3)) wc tc (tk d p) (nI m) k s0 := by
                show (if _ then _ else _) = _
                rw [if_pos ⟨hw0, h2⟩, hN]
              refine wp_if_eq (tgt := 95) rfl (by decide) ?_ ?_
              · intro _
                refine wp_inc rfl rfl (by decide) ?_
                refine wp_goto (tgt := 49) rfl (by decide) ?_
                have := ih (k + 1) d2 (by omega) hdd hww (by rw [e]; exact ht2)
                rw [e] at this
                exact this
              · intro hc
                exact absurd rfl hc
            · have e : sPk (d (p + 1)) (d (p + 3)) wc tc (tk d p) (nI m) (k + 1) s0 = (g', (sPk (d (p + 1)) (d (p + 3)) wc tc (tk d p) (nI m) k s0).2 + 1) := by
                show (if _ then _ else _) = _
                rw [if_pos ⟨hw0, h2⟩, hN]
              refine wp_if_eq (tgt := 95) rfl (by decide) ?_ ?_
              · intro hc
                exact absurd hc (by decide)
              · intro _
                refine wp_inc rfl rfl (by decide) ?_
                refine wp_inc rfl rfl (by decide) ?_
                refine wp_goto (tgt := 49) rfl (by decide) ?_
                have := ih (k + 1) d2 (by omega) hdd hww (by rw [e]; exact ht2)
                rw [e] at this
                exact this
  have outer : ∀ m j d' x3, m + j = 4 → (∀ q, q ≠ p + 5 → q ≠ p + 6 → (q < p + 7 ∨ p + 27 ≤ q) → d' q = d q) → (∀ i, i < tc → d' (p + 5) i = if tk d p i 4 = 0 then 1 else 0) → tk d' p = (sPo (d (p + 1)) (d (p + 3)) wc tc (tk d p) j).1 →
      Wp X kX3_placeTasks K z 43 [some (.inr (some p)), some (.inl (nI (sPo (d (p + 1)) (d (p + 3)) wc tc (tk d p) j).2)), some (.inl (nI m - 1)), x3] [] (K, z, kd, d', r) Q := by
    intro m
    induction m with
    | zero =>
      intro j d' x3 hj hd hw ht
      have : j = 4 := by omega
      subst this
      refine wp_iload_n rfl rfl ?_
      refine wp_if_lt (tgt := 107) rfl (by decide) ?_ ?_
      · intro _
        refine wp_iload_n rfl rfl ?_
        refine wp_ireturn rfl .int rfl rfl ?_
        rw [← hQ]
        exact ⟨rfl, d', rfl, fun q hq => hd q (by omega) (by omega) (by omega), (congrFun (hd p (by omega) (by omega) (by omega)) 6).trans hwc, (congrFun (hd p (by omega) (by omega) (by omega)) 7).trans htc, hd _ (by omega) (by omega) (by omega), hd _ (by omega) (by omega) (by omega), ht, hd _ (by omega) (by omega) (by omega)⟩
      · intro h
        exact absurd pred_lt h
    | succ m ihm =>
      intro j d' x3 hj hd hw ht
      rw [pred_e]
      refine wp_iload_n rfl rfl ?_
      refine wp_if_lt (tgt := 107) rfl (by decide) ?_ ?_
      · intro h
        exact absurd h (nI_pos (by omega))
      · intro _
        refine wp_iconst (v := 0) rfl (by decide) ?_
        refine wp_istore_n rfl (by decide) ?_
        have e3 : 3 - j = m := by omega
        refine inner m (by omega) (sPo (d (p + 1)) (d (p + 3)) wc tc (tk d p) j) (fun t i h4 h5 h6 => sPo_f t i h4 h5 h6 j) ?_ tc 0 d' (by omega) hd hw ht
        intro d2 hd2 hw2 ht2
        refine wp_iinc (v := nI m - 1) rfl rfl (dec_e _) (by decide) ?_
        refine wp_goto (tgt := 43) rfl (by decide) ?_
        have := ihm (j + 1) d2 (some (.inl (nI tc))) (by omega) hd2 hw2 (by rw [sPo, e3]; exact ht2)
        rw [sPo, e3] at this
        exact this
  have first : ∀ n k d', k + n = tc → (∀ q, q ≠ p + 5 → d' q = d q) → (∀ i, i < k → d' (p + 5) i = if tk d p i 4 = 0 then 1 else 0) → Wp X kX3_placeTasks K z 2 [some (.inr (some p)), some (.inl (nI k)), none, none] [] (K, z, kd, d', r) Q := by
    intro n
    induction n with
    | zero =>
      intro k d' hk hd hw
      have : k = tc := by omega
      subst this
      refine wp_iload_n rfl rfl ?_
      refine wp_aload_n rfl rfl ?_
      refine st_getI rfl fX3_37 rfl (by assumption) ((congrFun (hd p (by omega)) 7).trans htc) ?_
      refine wp_icmp_ge (tgt := 39) rfl (by decide) ?_ ?_
      · intro _
        refine wp_iconst (v := 0) rfl (by decide) ?_
        refine wp_istore_n rfl (by decide) ?_
        refine wp_iconst (v := 3) rfl (by decide) ?_
        refine wp_istore_n rfl (by decide) ?_
        refine outer 4 0 d' none rfl (fun q h5 _ _ => hd q h5) hw ?_
        funext t j
        exact congrFun (hd (p + 7 + t) (by omega)) j
      · intro h
        exact absurd (nI_le (by omega) (by omega)) h
    | succ n ih =>
      intro k d' hk hd hw
      have hw2 : ∀ v, v = (if tk d p k 4 = 0 then 1 else 0 : Int32) → ∀ i, i < k + 1 → hu d' (p + 5) k v (p + 5) i = if tk d p i 4 = 0 then 1 else 0 := fun v hv i hi => by
        by_cases e : i = k
        · subst e; rw [hu_s]; exact hv
        · rw [hu_n (by omega)]; exact hw i (by omega)
      have hf : d' (p + 7 + k) 4 = tk d p k 4 := congrFun (hd (p + 7 + k) (by omega)) 4
      refine wp_iload_n rfl rfl ?_
      refine wp_aload_n rfl rfl ?_
      refine st_getI rfl fX3_37 rfl (by assumption) ((congrFun (hd p (by omega)) 7).trans htc) ?_
      refine wp_icmp_ge (tgt := 39) rfl (by decide) ?_ ?_
      · intro h
        exact absurd h (nI_ge (by omega) (by omega))
      · intro _
        refine wp_aload_n rfl rfl ?_
        refine st_getR rfl fX3_25 rfl (by assumption) (by assumption) ?_
        refine wp_iload_n rfl rfl ?_
        refine wp_aload_n rfl rfl ?_
        refine st_getR rfl fX3_21 rfl (by assumption) (by assumption) ?_
        refine wp_iload_n rfl rfl ?_
        refine st_aald (t0 := 4) rfl (by assumption) rfl rfl (by omega) (by decide) (rt _ (by omega)) ?_
        refine st_getI rfl fX3_116 rfl (kt _ (by omega)) (hf) ?_
        refine wp_if_ne (tgt := 31) rfl (by decide) ?_ ?_
        · intro h24
          refine wp_iconst (v := 0) rfl (by decide) ?_
          refine st_zast rfl (by assumption) rfl (by omega) (by decide) rfl ?_
          refine wp_inc rfl rfl (by decide) ?_
          refine wp_goto (tgt := 2) rfl (by decide) ?_
          first | exact ih (k + 1) _ (by omega) (fun q hq => by rw [row_n hq, hd q hq]) (hw2 _ (by rw [if_neg h24])) | exact ih (k + 1) _ (by omega) (fun q hq => by rw [row_n hq, hd q hq]) (hw2 _ (by rw [if_pos h24]))
        · intro h24
          refine wp_iconst (v := 1) rfl (by decide) ?_
          refine wp_goto (tgt := 32) rfl (by decide) ?_
          refine st_zast rfl (by assumption) rfl (by omega) (by decide) rfl ?_
          refine wp_inc rfl rfl (by decide) ?_
          refine wp_goto (tgt := 2) rfl (by decide) ?_
          first | exact ih (k + 1) _ (by omega) (fun q hq => by rw [row_n hq, hd q hq]) (hw2 _ (by rw [if_neg h24])) | exact ih (k + 1) _ (by omega) (fun q hq => by rw [row_n hq, hd q hq]) (hw2 _ (by rw [if_pos h24]))
  refine wp_iconst (v := 0) rfl (by decide) ?_
  refine wp_istore_n rfl (by decide) ?_
  exact first tc 0 d (by omega) (fun _ _ => rfl) (fun i hi => absurd hi (by omega))
theorem c_answerTo {o : Nat} (hs : sc kd r p) (hR : sR d p S) (hO : sOk S) (ho : kd o = some (.inl 2)) : Cl X kX3_answerTo [.inr (some p), .inr (some o)] (K, z, kd, d, r) (sPs K z kd r d p (sAct S (d o 2) (d o 3) (d o 4) (d o 5) (d o 6))) := by
  have k0 := hs.1
  refine h_ofWp oX3_answerTo (by decide) (Nat.le_of_ble_eq_true rfl) ?_
  refine wp_aload_n rfl rfl ?_
  refine st_getI rfl fX3_40 rfl (by assumption) rfl ?_
  generalize hx : d o 2 = x
  have fin : ∀ {res : Sch × Int32} {rv : Option hV} {M' : hM} {pc : Nat} {st : List hV} {L : List (Option hV)}, sAct S x (d o 3) (d o 4) (d o 5) (d o 6) = res → sPs K z kd r d p res rv M' → h_at kX3_answerTo pc = some (.ireturn, 1) → st = [] → Wp X kX3_answerTo K z pc L (rv.toList ++ st) M' (sPs K z kd r d p (sAct S x (d o 3) (d o 4) (d o 5) (d o 6))) := by
    intro res rv M' pc st L h1 h2 h3 h4
    subst h4
    rw [h1]
    have h5 := h2
    obtain ⟨rfl, -⟩ := h5
    exact wp_ireturn h3 .int rfl rfl h2
  have ne : ∀ {i j : Nat}, i < 100 → j < 100 → i ≠ j → ¬ nI i = nI j := fun hi hj h e => h ((nI_eq (by omega) (by omega)).mp e)
  rcases h_sw x 8 (by decide) with ⟨j, hj, rfl⟩ | hout
  · rcases (show j = 0 ∨ j = 1 ∨ j = 2 ∨ j = 3 ∨ j = 4 ∨ j = 5 ∨ j = 6 ∨ j = 7 by omega) with rfl | rfl | rfl | rfl | rfl | rfl | rfl | rfl
    · refine wp_tabIn (off := 48) (tgt := 52) rfl (by decide) (by decide) rfl (by decide) ?_
      refine wp_aload_n rfl rfl ?_
      refine wp_aload_n rfl rfl ?_
      refine st_getI rfl fX3_45 rfl (by assumption) rfl ?_
      refine wp_aload_n rfl rfl ?_
      refine st_getI rfl fX3_48 rfl (by assumption) rfl ?_
      refine wp_V2 rfl mX3_answerTo_51 (by assumption) (Nat.le_of_ble_eq_true rfl) (c_setQuota hs hR hO.2.1) ?_
      exact fun rv M1 h => fin rfl h rfl rfl
      -- done
    · refine wp_tabIn (off := 61) (tgt := 65) rfl (by decide) (by decide) rfl (by decide) ?_
      refine wp_aload_n rfl rfl ?_
      refine wp_aload_n rfl rfl ?_
      refine st_getI rfl fX3_45 rfl (by assumption) rfl ?_
      refine wp_V1 rfl mX3_answerTo_55 (by assumption) (Nat.le_of_ble_eq_true rfl) (c_addWorker hs hR hO.1) ?_
      exact fun rv M1 h => fin rfl h rfl rfl
      -- done
    · refine wp_tabIn (off := 70) (tgt := 74) rfl (by decide) (by decide) rfl (by decide) ?_
      refine wp_aload_n rfl rfl ?_
      refine wp_aload_n rfl rfl ?_
      refine st_getI rfl fX3_45 rfl (by assumption) rfl ?_
      refine wp_aload_n rfl rfl ?_
      refine st_getI rfl fX3_48 rfl (by assumption) rfl ?_
      refine wp_aload_n rfl rfl ?_
      refine st_getI rfl fX3_59 rfl (by assumption) rfl ?_
      refine wp_aload_n rfl rfl ?_
      refine st_getI rfl fX3_62 rfl (by assumption) rfl ?_
      refine wp_V4 rfl mX3_answerTo_65 (by assumption) (Nat.le_of_ble_eq_true rfl) (c_addTask hs hR hO.2.1) ?_
      exact fun rv M1 h => fin rfl h rfl rfl
      -- done
    · refine wp_tabIn (off := 91) (tgt := 95) rfl (by decide) (by decide) rfl (by decide) ?_
      refine wp_aload_n rfl rfl ?_
      refine wp_V0 rfl mX3_answerTo_69 (by assumption) (Nat.le_of_ble_eq_true rfl) (c_placeTasks hs hR hO) ?_
      exact fun rv M1 h => fin rfl h rfl rfl
      -- done
    · refine wp_tabIn (off := 96) (tgt := 100) rfl (by decide) (by decide) rfl (by decide) ?_
      refine wp_aload_n rfl rfl ?_
      refine wp_aload_n rfl rfl ?_
      refine st_getI rfl fX3_45 rfl (by assumption) rfl ?_
      refine wp_aload_n rfl rfl ?_
      refine st_getI rfl fX3_48 rfl (by assumption) rfl ?_
      refine wp_aload_n rfl rfl ?_
      refine st_getI rfl fX3_59 rfl (by assumption) rfl ?_
      refine wp_V3 rfl mX3_answerTo_73 (by assumption) (Nat.le_of_ble_eq_true rfl) (c_finish hs hR hO.2.1) ?_
      exact fun rv M1 h => fin rfl h rfl rfl
      -- done
    · refine wp_tabIn (off := 113) (tgt := 117) rfl (by decide) (by decide) rfl (by decide) ?_
      refine wp_aload_n rfl rfl ?_
      refine wp_aload_n rfl rfl ?_
      refine st_getI rfl fX3_45 rfl (by assumption) rfl ?_
      refine wp_V1 rfl mX3_answerTo_77 (by assumption) (Nat.le_of_ble_eq_true rfl) (c_cancel hs hR hO.2.1) ?_
      exact fun rv M1 h => fin rfl h rfl rfl
      -- done
    · refine wp_tabIn (off := 122) (tgt := 126) rfl (by decide) (by decide) rfl (by decide) ?_
      refine wp_aload_n rfl rfl ?_
      refine wp_aload_n rfl rfl ?_
      refine st_getI rfl fX3_45 rfl (by assumption) rfl ?_
      refine wp_V1 rfl mX3_answerTo_80 (by assumption) (Nat.le_of_ble_eq_true rfl) (c_endLease hs hR hO.2.1 hO.1) ?_
      exact fun rv M1 h => fin rfl h rfl rfl
      -- done
    · refine wp_tabIn (off := 131) (tgt := 135) rfl (by decide) (by decide) rfl (by decide) ?_
      refine wp_aload_n rfl rfl ?_
      refine wp_aload_n rfl rfl ?_
      refine st_getI rfl fX3_45 rfl (by assumption) rfl ?_
      refine wp_V1 rfl mX3_answerTo_83 (by assumption) (Nat.le_of_ble_eq_true rfl) (c_stand hs hR hO.2.1) ?_
      exact fun rv M1 h => fin rfl h rfl rfl
      -- done
  · refine wp_tabOut (tgt := 144) rfl hout (by decide) ?_
    refine wp_iconst (v := -1) rfl (by decide) ?_
    refine wp_ireturn rfl .int rfl rfl ?_
    have nj : ∀ i, i < 8 → ¬ x = nI i := fun i hi e => by
      rw [e, i_nI (by omega)] at hout
      omega
    rw [sAct, if_neg (nj 0 (by omega)), if_neg (nj 1 (by omega)), if_neg (nj 2 (by omega)), if_neg (nj 3 (by omega)), if_neg (nj 4 (by omega)), if_neg (nj 5 (by omega)), if_neg (nj 6 (by omega)), if_neg (nj 7 (by omega))]
    exact sPs_same hR
theorem c_keepsBounds (hs : sc kd r p) (hR : sR d p S) (hO : sOk S) (hf : ∀ w, w < S.1 → 0 ≤ sFree (S.2.2.2.1 w) S.2.2.2.2.1 (nI w) S.2.1) (hb : ∀ u, u < 4 → sUsed S.2.2.2.2.1 (nI u) S.2.1 ≤ S.2.2.2.2.2 u) : Cl X kX3_keepsBounds [.inr (some p)] (K, z, kd, d, r) (fun rv M' => rv = some (.inl 1) ∧ M' = (K, z, kd, d, r)) := by
  obtain ⟨wc, tc, quo, cap, g, bd⟩ := S
  have hs0 := hs
  obtain ⟨k0, r0, r1, r2, r3, r4, r5, k1, k2, k3, k4, k5, k6, rt, kt, hp⟩ := hs
  obtain ⟨hwc, htc, e1, e2, e3, e4⟩ := hR
  obtain ⟨h6, h20, hO⟩ := hO
  dsimp only at hwc htc e1 e2 e3 e4 h20 h6 hO hf hb
  subst e1 e2 e3 e4
  refine h_ofWp oX3_keepsBounds (by decide) (Nat.le_of_ble_eq_true rfl) ?_
  have second : ∀ n k, k + n = 4 → Wp X kX3_keepsBounds K z 28 [some (.inr (some p)), some (.inl (nI k))] [] (K, z, kd, d, r) (fun rv M' => rv = some (.inl 1) ∧ M' = (K, z, kd, d, r)) := by
    intro n
    induction n with
    | zero =>
      intro k hk
      have : k = 4 := by omega
      subst this
      refine wp_iload_n rfl rfl ?_
      refine wp_iconst (v := 4) rfl (by decide) ?_
      refine wp_icmp_ge (tgt := 55) rfl (by decide) ?_ ?_
      · intro _
        refine wp_iconst (v := 1) rfl (by decide) ?_
        refine wp_ireturn rfl .boolean rfl rfl (⟨rfl, rfl⟩)
      · intro h
        exact absurd (show (4 : Int32) ≤ nI 4 by decide) h
    | succ n ih =>
      intro k hk
      refine wp_iload_n rfl rfl ?_
      refine wp_iconst (v := 4) rfl (by decide) ?_
      refine wp_icmp_ge (tgt := 55) rfl (by decide) ?_ ?_
      · intro h
        exact absurd h (nI_ge (a := k) (b := 4) (by omega) (by omega))
      · intro _
        refine wp_aload_n rfl rfl ?_
        refine wp_iload_n rfl rfl ?_
        refine wp_V1 rfl mX3_keepsBounds_90 (k0) (Nat.le_of_ble_eq_true rfl) (c_usedBy hs0 htc h20) ?_
        rintro _ _ ⟨rfl, rfl⟩
        refine wp_aload_n rfl rfl ?_
        refine st_getR rfl fX3_13 rfl (by assumption) (by assumption) ?_
        refine wp_iload_n rfl rfl ?_
        refine st_iald rfl (by assumption) rfl ((by omega : k < 4)) (by decide) rfl ?_
        refine wp_icmp_le (tgt := 49) rfl (by decide) ?_ ?_
        · intro _
          refine wp_inc rfl rfl (by decide) ?_
          refine wp_goto (tgt := 28) rfl (by decide) ?_
          exact ih (k + 1) (by omega)
        · intro h
          exact absurd (hb k (by omega)) h
  have first : ∀ n k, k + n = wc → Wp X kX3_keepsBounds K z 2 [some (.inr (some p)), some (.inl (nI k))] [] (K, z, kd, d, r) (fun rv M' => rv = some (.inl 1) ∧ M' = (K, z, kd, d, r)) := by
    intro n
    induction n with
    | zero =>
      intro k hk
      have : k = wc := by omega
      subst this
      refine wp_iload_n rfl rfl ?_
      refine wp_aload_n rfl rfl ?_
      refine st_getI rfl fX3_33 rfl (by assumption) (hwc) ?_
      refine wp_icmp_ge (tgt := 26) rfl (by decide) ?_ ?_
      · intro _
        refine wp_iconst (v := 0) rfl (by decide) ?_
        refine wp_istore_n rfl (by decide) ?_
        exact second 4 0 rfl
      · intro h
        exact absurd (nI_le (by omega) (by omega)) h
    | succ n ih =>
      intro k hk
      refine wp_iload_n rfl rfl ?_
      refine wp_aload_n rfl rfl ?_
      refine st_getI rfl fX3_33 rfl (by assumption) (hwc) ?_
      refine wp_icmp_ge (tgt := 26) rfl (by decide) ?_ ?_
      · intro h
        exact absurd h (nI_ge (by omega) (by omega))
      · intro _
        refine wp_aload_n rfl rfl ?_
        refine wp_iload_n rfl rfl ?_
        refine wp_V1 rfl mX3_keepsBounds_146 (k0) (Nat.le_of_ble_eq_true rfl) (c_freeOn hs0 htc h20 (by omega)) ?_
        rintro _ _ ⟨rfl, rfl⟩
        refine wp_if_ge (tgt := 20) rfl (by decide) ?_ ?_
        · intro _
          refine wp_inc rfl rfl (by decide) ?_
          refine wp_goto (tgt := 2) rfl (by decide) ?_
          exact ih (k + 1) (by omega)
        · intro h
          exact absurd (hf k (by omega)) h
  refine wp_iconst (v := 0) rfl (by decide) ?_
  refine wp_istore_n rfl (by decide) ?_
  exact first wc 0 (by omega)
end ANSWER
