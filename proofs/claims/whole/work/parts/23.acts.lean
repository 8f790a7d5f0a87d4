/-! THE CLASS'S SCHEDULER: the orders -/
noncomputable def cIf {α : Sort _} (P : Prop) (a b : α) : α := @ite α P (Classical.propDecidable P) a b
theorem cIf_t {α : Sort _} {P : Prop} {a b : α} (h : P) : cIf P a b = a := if_pos h
theorem cIf_f {α : Sort _} {P : Prop} {a b : α} (h : ¬ P) : cIf P a b = b := if_neg h
def inR (x : Int32) (lo n : Nat) : Prop := ∃ j, lo ≤ j ∧ j < n ∧ x = nI j
theorem rg_1 {x : Int32} {lo n : Nat} {v : Int32} (h : h_rg x lo n v) : (v = 1 ∧ inR x lo n) ∨ (v = 0 ∧ ¬ inR x lo n) := by
  rcases h with ⟨h1, h2⟩ | ⟨h1, h2⟩
  · exact Or.inl ⟨h1, h2⟩
  · exact Or.inr ⟨h1, fun ⟨j, a, b, c⟩ => h2 j a b c⟩
theorem inR_n {x : Int32} {lo n : Nat} (h : inR x lo n) (hn : n < 2147483648) : lo ≤ x.toNatClampNeg ∧ x.toNatClampNeg < n ∧ x = nI x.toNatClampNeg := by
  obtain ⟨j, h1, h2, rfl⟩ := h
  rw [nI_clamp (by omega)]
  exact ⟨h1, h2, rfl⟩
theorem row_s {α : Type} {d : Nat → Nat → α} {q j : Nat} {x : α} : hu d q j x q = hu1 (d q) j x := by
  funext i
  simp [hu, hu1]
theorem row_n {α : Type} {d : Nat → Nat → α} {q j q' : Nat} {x : α} (h : q' ≠ q) : hu d q j x q' = d q' := by
  funext i
  exact hu_n (fun e => h e.1)
theorem tk_o {d : Nat → Nat → Int32} {p q j : Nat} {x : Int32} (h : q < p + 7) : tk (hu d q j x) p = tk d p := by
  funext t i
  exact hu_n (by omega)
/-- workers, tasks, quotas, capacities, tasks' fields, bounds -/
abbrev Sch : Type := Nat × Nat × (Nat → Int32) × (Nat → Int32) × (Nat → Nat → Int32) × (Nat → Int32)
def sR (d : Nat → Nat → Int32) (p : Nat) (S : Sch) : Prop := d p 6 = nI S.1 ∧ d p 7 = nI S.2.1 ∧ d (p + 1) = S.2.2.1 ∧ d (p + 3) = S.2.2.2.1 ∧ tk d p = S.2.2.2.2.1 ∧ d (p + 2) = S.2.2.2.2.2
def sPs (K z : Nat) (kd : Nat → Option hK) (r : Nat → Nat → Option Nat) (d : Nat → Nat → Int32) (p : Nat) (res : Sch × Int32) : Option hV → hM → Prop := fun rv M' => rv = some (.inl res.2) ∧ ∃ d', M' = (K, z, kd, d', r) ∧ (∀ q, (q < p ∨ p + 27 ≤ q) → d' q = d q) ∧ sR d' p res.1
noncomputable def aQuota (S : Sch) (a b : Int32) : Sch × Int32 := cIf (inR a 0 4 ∧ inR b 0 61) ((S.1, S.2.1, hu1 S.2.2.1 a.toNatClampNeg b, S.2.2.2.1, S.2.2.2.2.1, hu1 S.2.2.2.2.2 a.toNatClampNeg (if b < sUsed S.2.2.2.2.1 a S.2.1 then sUsed S.2.2.2.2.1 a S.2.1 else b)), 1) (S, 0)
noncomputable def aWork (S : Sch) (a : Int32) : Sch × Int32 := cIf (inR a 1 21 ∧ S.1 < 6) ((S.1 + 1, S.2.1, S.2.2.1, hu1 S.2.2.2.1 S.1 a, S.2.2.2.2.1, S.2.2.2.2.2), nI S.1) (S, -1)
noncomputable def aTask (S : Sch) (a b c e : Int32) : Sch × Int32 := cIf ((inR a 0 4 ∧ inR b 1 21 ∧ inR c 0 4 ∧ (e = -1 ∨ inR e 0 S.2.1)) ∧ S.2.1 < 20) ((S.1, S.2.1 + 1, S.2.2.1, S.2.2.2.1, hu (hu (hu (hu S.2.2.2.2.1 S.2.1 0 a) S.2.1 1 b) S.2.1 2 c) S.2.1 3 e, S.2.2.2.2.2), nI S.2.1) (S, -1)
noncomputable def aFin (S : Sch) (a b c : Int32) : Sch × Int32 := cIf (inR a 0 S.2.1 ∧ S.2.2.2.2.1 a.toNatClampNeg 4 = 1 ∧ S.2.2.2.2.1 a.toNatClampNeg 5 = b) ((S.1, S.2.1, S.2.2.1, S.2.2.2.1, hu (hu (hu S.2.2.2.2.1 a.toNatClampNeg 4 2) a.toNatClampNeg 6 (-1)) a.toNatClampNeg 7 c, S.2.2.2.2.2), 1) (S, 0)
noncomputable def aCan (S : Sch) (a : Int32) : Sch × Int32 := cIf (inR a 0 S.2.1 ∧ (S.2.2.2.2.1 a.toNatClampNeg 4 = 0 ∨ S.2.2.2.2.1 a.toNatClampNeg 4 = 1)) ((S.1, S.2.1, S.2.2.1, S.2.2.2.1, hu (hu S.2.2.2.2.1 a.toNatClampNeg 4 3) a.toNatClampNeg 6 (-1), S.2.2.2.2.2), 1) (S, 0)
def sLe (g : Nat → Nat → Int32) (w : Int32) : Nat → (Nat → Nat → Int32) × Nat
  | 0 => (g, 0)
  | k + 1 => if (sLe g w k).1 k 6 = w then (hu (hu (sLe g w k).1 k 4 0) k 6 (-1), (sLe g w k).2 + 1) else sLe g w k
noncomputable def aLease (S : Sch) (a : Int32) : Sch × Int32 := cIf (inR a 0 S.1) ((S.1, S.2.1, S.2.2.1, S.2.2.2.1, (sLe S.2.2.2.2.1 a S.2.1).1, S.2.2.2.2.2), nI (sLe S.2.2.2.2.1 a S.2.1).2) (S, 0)
noncomputable def aStand (S : Sch) (a : Int32) : Sch × Int32 := (S, cIf (inR a 0 S.2.1) (1000 * S.2.2.2.2.1 a.toNatClampNeg 4 + S.2.2.2.2.1 a.toNatClampNeg 5) (-1))
section ACTS
variable {X : hX} {K z : Nat} {kd : Nat → Option hK} {d : Nat → Nat → Int32} {r : Nat → Nat → Option Nat} {p : Nat} {S : Sch} {a b c e : Int32}
theorem sPs_same (hR : sR d p S) {v : Int32} : sPs K z kd r d p (S, v) (some (.inl v)) (K, z, kd, d, r) := ⟨rfl, d, rfl, fun _ _ => rfl, hR⟩
theorem c_setQuota (hs : sc kd r p) (hR : sR d p S) (h20 : S.2.1 ≤ 20) : Cl X kX3_setQuota [.inr (some p), .inl a, .inl b] (K, z, kd, d, r) (sPs K z kd r d p (aQuota S a b)) := by
  obtain ⟨wc, tc, quo, cap, g, bd⟩ := S
  have hs0 := hs
  obtain ⟨k0, r0, r1, r2, r3, r4, r5, k1, k2, k3, k4, k5, k6, rt, kt, hp⟩ := hs
  have hR0 := hR
  obtain ⟨hwc, htc, e1, e2, e3, e4⟩ := hR
  dsimp only at hwc htc e1 e2 e3 e4 h20
  subst e1 e2 e3 e4
  refine h_ofWp oX3_setQuota (by decide) (Nat.le_of_ble_eq_true rfl) ?_
  have no : ¬ (inR a 0 4 ∧ inR b 0 61) → sPs K z kd r d p (aQuota (wc, tc, d (p + 1), d (p + 3), tk d p, d (p + 2)) a b) (some (.inl 0)) (K, z, kd, d, r) := fun h => by
    rw [aQuota, cIf_f h]
    exact sPs_same hR0
  refine wp_aload_n rfl rfl ?_
  refine wp_iload_n rfl rfl ?_
  refine wp_V1 rfl mX3_setQuota_86 (k0) (Nat.le_of_ble_eq_true rfl) (c_isUser) ?_
  rintro _ _ ⟨v, rfl, rfl, hv⟩
  rcases rg_1 hv with ⟨rfl, ha⟩ | ⟨rfl, ha⟩
  · obtain ⟨u, -, hu4, rfl⟩ := ha
    refine wp_if_eq (tgt := 18) rfl (by decide) ?_ ?_
    · intro h
      exact absurd h (by decide)
    · intro _
      refine wp_iload_n rfl rfl ?_
      refine wp_if_lt (tgt := 18) rfl (by decide) ?_ ?_
      · intro h
        refine wp_iconst (v := 0) rfl (by decide) ?_
        refine wp_ireturn rfl .int rfl rfl ?_
        exact no (fun ⟨_, hb⟩ => by obtain ⟨j, -, hj, rfl⟩ := hb; exact nI_pos (n := j) (by omega) h)
      · intro h9
        refine wp_iload_n rfl rfl ?_
        refine wp_bipush (v := 60) rfl (by decide) ?_
        refine wp_icmp_le (tgt := 20) rfl (by decide) ?_ ?_
        · intro h15
          have hb : inR b 0 61 := by
            obtain ⟨j, hj, rfl⟩ := nI_of h9
            refine ⟨j, Nat.zero_le _, ?_, rfl⟩
            rw [i_le, i_nI (by omega), show (60 : Int32).toInt = 60 by decide] at h15
            omega
          refine wp_aload_n rfl rfl ?_
          refine st_getR rfl fX3_9 rfl (by assumption) (by assumption) ?_
          refine wp_iload_n rfl rfl ?_
          refine wp_iload_n rfl rfl ?_
          refine st_iast rfl (by assumption) (by omega) rfl (hu4) (by decide) ?_
          refine wp_aload_n rfl rfl ?_
          refine st_getR rfl fX3_13 rfl (by assumption) (by assumption) ?_
          refine wp_iload_n rfl rfl ?_
          refine wp_iload_n rfl rfl ?_
          refine wp_aload_n rfl rfl ?_
          refine wp_iload_n rfl rfl ?_
          refine wp_V1 rfl mX3_setQuota_90 (k0) (Nat.le_of_ble_eq_true rfl) (c_usedBy hs0 ((congrFun (row_n (by omega)) 7).trans htc) h20) ?_
          rintro _ _ ⟨rfl, rfl⟩
          rw [tk_o (by omega)]
          refine wp_S2 rfl mX3_setQuota_93 (Nat.le_of_ble_eq_true rfl) (c_max) ?_
          rintro _ _ ⟨rfl, rfl⟩
          refine st_iast rfl (by assumption) (by omega) rfl (hu4) (by decide) ?_
          refine wp_iconst (v := 1) rfl (by decide) ?_
          refine wp_ireturn rfl .int rfl rfl ?_
          rw [aQuota, cIf_t ⟨⟨u, Nat.zero_le _, hu4, rfl⟩, hb⟩, nI_clamp (show u < 2 ^ 31 by omega)]
          refine ⟨rfl, _, rfl, fun q hq => ?_, ?_⟩
          · rw [row_n (by omega), row_n (by omega)]
          · refine ⟨?_, ?_, ?_, ?_, ?_, ?_⟩
            · rw [row_n (by omega), row_n (by omega)]; exact hwc
            · rw [row_n (by omega), row_n (by omega)]; exact htc
            · rw [row_n (by omega), row_s]
            · rw [row_n (by omega), row_n (by omega)]
            · rw [tk_o (by omega), tk_o (by omega)]
            · rw [row_s, row_n (by omega)]
        · intro h
          refine wp_iconst (v := 0) rfl (by decide) ?_
          refine wp_ireturn rfl .int rfl rfl ?_
          exact no (fun ⟨_, hb⟩ => by
            obtain ⟨j, -, hj, rfl⟩ := hb
            rw [i_le, i_nI (by omega), show (60 : Int32).toInt = 60 by decide] at h
            omega)
  · refine wp_if_eq (tgt := 18) rfl (by decide) ?_ ?_
    · intro _
      refine wp_iconst (v := 0) rfl (by decide) ?_
      refine wp_ireturn rfl .int rfl rfl ?_
      exact no (fun h => ha h.1)
    · intro h
      exact absurd rfl h
theorem c_addWorker (hs : sc kd r p) (hR : sR d p S) (h6 : S.1 ≤ 6) : Cl X kX3_addWorker [.inr (some p), .inl a] (K, z, kd, d, r) (sPs K z kd r d p (aWork S a)) := by
  obtain ⟨wc, tc, quo, cap, g, bd⟩ := S
  obtain ⟨k0, r0, r1, r2, r3, r4, r5, k1, k2, k3, k4, k5, k6, rt, kt, hp⟩ := hs
  have hR0 := hR
  obtain ⟨hwc, htc, e1, e2, e3, e4⟩ := hR
  dsimp only at hwc htc e1 e2 e3 e4 h6
  subst e1 e2 e3 e4
  refine h_ofWp oX3_addWorker (by decide) (Nat.le_of_ble_eq_true rfl) ?_
  have no : ¬ (inR a 1 21 ∧ wc < 6) → sPs K z kd r d p (aWork (wc, tc, d (p + 1), d (p + 3), tk d p, d (p + 2)) a) (some (.inl (-1))) (K, z, kd, d, r) := fun h => by
    rw [aWork, cIf_f h]
    exact sPs_same hR0
  refine wp_aload_n rfl rfl ?_
  refine wp_iload_n rfl rfl ?_
  refine wp_V1 rfl mX3_addWorker_98 (k0) (Nat.le_of_ble_eq_true rfl) (c_isSize) ?_
  rintro _ _ ⟨v, rfl, rfl, hv⟩
  rcases rg_1 hv with ⟨rfl, ha⟩ | ⟨rfl, ha⟩
  · refine wp_if_eq (tgt := 17) rfl (by decide) ?_ ?_
    · intro h
      exact absurd h (by decide)
    · intro _
      refine wp_aload_n rfl rfl ?_
      refine st_getI rfl fX3_33 rfl (by assumption) (hwc) ?_
      refine wp_bipush (v := 6) rfl (by decide) ?_
      refine wp_icmp_lt (tgt := 19) rfl (by decide) ?_ ?_
      · intro h
        have hw : wc < 6 := by
          rw [i_lt, i_nI (by omega), show (6 : Int32).toInt = 6 by decide] at h
          omega
        refine wp_aload_n rfl rfl ?_
        refine st_getR rfl fX3_16 rfl (by assumption) (by assumption) ?_
        refine wp_aload_n rfl rfl ?_
        refine st_getI rfl fX3_33 rfl (by assumption) (hwc) ?_
        refine wp_iload_n rfl rfl ?_
        refine st_iast rfl (by assumption) (by omega) rfl (hw) (by decide) ?_
        refine wp_aload_n rfl rfl ?_
        refine wp_dup rfl ?_
        refine st_getI rfl fX3_33 rfl (by assumption) ((congrFun (row_n (by omega)) 6).trans hwc) ?_
        refine wp_iconst (v := 1) rfl (by decide) ?_
        refine wp_iadd rfl ?_
        refine st_putI rfl fX3_33 rfl rfl ⟨rfl, rfl⟩ (by assumption) ?_
        refine wp_aload_n rfl rfl ?_
        refine st_getI rfl fX3_33 rfl (by assumption) (hu_s) ?_
        refine wp_iconst (v := 1) rfl (by decide) ?_
        refine wp_isub rfl ?_
        refine wp_ireturn rfl .int rfl rfl ?_
        rw [aWork, cIf_t ⟨ha, hw⟩]
        refine ⟨?_, _, rfl, fun q hq => ?_, ?_⟩
        · show some (Sum.inl (nI wc + 1 - 1)) = some (Sum.inl (nI wc))
          rw [nI_1, nI_pred]
        · rw [row_n (by omega), row_n (by omega)]
        · refine ⟨?_, ?_, ?_, ?_, ?_, ?_⟩
          · rw [hu_s]; exact nI_1 wc
          · rw [hu_n (by omega), row_n (by omega)]; exact htc
          · rw [row_n (by omega), row_n (by omega)]
          · rw [row_n (by omega), row_s]
          · rw [tk_o (by omega), tk_o (by omega)]
          · rw [row_n (by omega), row_n (by omega)]
      · intro h
        refine wp_iconst (v := -1) rfl (by decide) ?_
        refine wp_ireturn rfl .int rfl rfl ?_
        exact no (fun hc => h (by
          rw [i_lt, i_nI (by omega), show (6 : Int32).toInt = 6 by decide]
          omega))
  · refine wp_if_eq (tgt := 17) rfl (by decide) ?_ ?_
    · intro _
      refine wp_iconst (v := -1) rfl (by decide) ?_
      refine wp_ireturn rfl .int rfl rfl ?_
      exact no (fun h => ha h.1)
    · intro h
      exact absurd rfl h
theorem c_cancel (hs : sc kd r p) (hR : sR d p S) (h20 : S.2.1 ≤ 20) : Cl X kX3_cancel [.inr (some p), .inl a] (K, z, kd, d, r) (sPs K z kd r d p (aCan S a)) := by
  obtain ⟨wc, tc, quo, cap, g, bd⟩ := S
  obtain ⟨k0, r0, r1, r2, r3, r4, r5, k1, k2, k3, k4, k5, k6, rt, kt, hp⟩ := hs
  have hR0 := hR
  obtain ⟨hwc, htc, e1, e2, e3, e4⟩ := hR
  dsimp only at hwc htc e1 e2 e3 e4 h20
  subst e1 e2 e3 e4
  refine h_ofWp oX3_cancel (by decide) (Nat.le_of_ble_eq_true rfl) ?_
  have no : ¬ (inR a 0 tc ∧ (tk d p a.toNatClampNeg 4 = 0 ∨ tk d p a.toNatClampNeg 4 = 1)) → sPs K z kd r d p (aCan (wc, tc, d (p + 1), d (p + 3), tk d p, d (p + 2)) a) (some (.inl 0)) (K, z, kd, d, r) := fun h => by
    rw [aCan, cIf_f h]
    exact sPs_same hR0
  refine wp_aload_n rfl rfl ?_
  refine wp_iload_n rfl rfl ?_
  refine wp_V1 rfl mX3_cancel_101 (k0) (Nat.le_of_ble_eq_true rfl) (c_isTask k0 htc (by omega)) ?_
  rintro _ _ ⟨v, rfl, rfl, hv⟩
  rcases rg_1 hv with ⟨rfl, ha⟩ | ⟨rfl, ha⟩
  · obtain ⟨t, -, ht, rfl⟩ := ha
    have ct : (nI t).toNatClampNeg = t := nI_clamp (by omega)
    have yes : (tk d p t 4 = 0 ∨ tk d p t 4 = 1) → Wp X kX3_cancel K z 35 [some (.inr (some p)), some (.inl (nI t))] [] (K, z, kd, d, r) (sPs K z kd r d p (aCan (wc, tc, d (p + 1), d (p + 3), tk d p, d (p + 2)) (nI t))) := by
      intro h
      refine wp_aload_n rfl rfl ?_
      refine st_getR rfl fX3_21 rfl (by assumption) (by assumption) ?_
      refine wp_iload_n rfl rfl ?_
      refine st_aald (t0 := 4) rfl (by assumption) rfl rfl (by omega) (by decide) (rt _ (by omega)) ?_
      refine wp_iconst (v := 3) rfl (by decide) ?_
      refine wp_V1 rfl mX3_cancel_122 (kt _ (by omega)) (Nat.le_of_ble_eq_true rfl) (c_leave (kt _ (by omega))) ?_
      rintro _ _ ⟨rfl, rfl⟩
      refine wp_iconst (v := 1) rfl (by decide) ?_
      refine wp_ireturn rfl .int rfl rfl ?_
      rw [aCan, cIf_t ⟨⟨t, Nat.zero_le _, ht, rfl⟩, by dsimp only; rw [ct]; exact h⟩, ct]
      refine ⟨rfl, _, rfl, fun q hq => ?_, ?_⟩
      · rw [row_n (by omega), row_n (by omega)]
      · refine ⟨?_, ?_, ?_, ?_, ?_, ?_⟩
        · rw [row_n (by omega), row_n (by omega)]; exact hwc
        · rw [row_n (by omega), row_n (by omega)]; exact htc
        · rw [row_n (by omega), row_n (by omega)]
        · rw [row_n (by omega), row_n (by omega)]
        · rw [tk_hu, tk_hu]
        · rw [row_n (by omega), row_n (by omega)]
    refine wp_if_eq (tgt := 33) rfl (by decide) ?_ ?_
    · intro h5
      refine wp_iconst (v := 0) rfl (by decide) ?_
      refine wp_ireturn rfl .int rfl rfl ?_
      first | exact absurd h5 (by decide) | exact no (fun h => by rw [ct] at h; exact h.2.elim h17 h30)
    · intro h5
      refine wp_aload_n rfl rfl ?_
      refine st_getR rfl fX3_21 rfl (by assumption) (by assumption) ?_
      refine wp_iload_n rfl rfl ?_
      refine st_aald (t0 := 4) rfl (by assumption) rfl rfl (by omega) (by decide) (rt _ (by omega)) ?_
      refine st_getI rfl fX3_116 rfl (kt _ (by omega)) rfl ?_
      refine wp_if_eq (tgt := 35) rfl (by decide) ?_ ?_
      · intro h17
        first | exact yes (Or.inl h17) | exact yes (Or.inr h30)
      · intro h17
        refine wp_aload_n rfl rfl ?_
        refine st_getR rfl fX3_21 rfl (by assumption) (by assumption) ?_
        refine wp_iload_n rfl rfl ?_
        refine st_aald (t0 := 4) rfl (by assumption) rfl rfl (by omega) (by decide) (rt _ (by omega)) ?_
        refine st_getI rfl fX3_116 rfl (kt _ (by omega)) rfl ?_
        refine wp_iconst (v := 1) rfl (by decide) ?_
        refine wp_icmp_eq (tgt := 35) rfl (by decide) ?_ ?_
        · intro h30
          first | exact yes (Or.inl h17) | exact yes (Or.inr h30)
        · intro h30
          refine wp_iconst (v := 0) rfl (by decide) ?_
          refine wp_ireturn rfl .int rfl rfl ?_
          first | exact absurd h5 (by decide) | exact no (fun h => by rw [ct] at h; exact h.2.elim h17 h30)
  · refine wp_if_eq (tgt := 33) rfl (by decide) ?_ ?_
    · intro h5
      refine wp_iconst (v := 0) rfl (by decide) ?_
      refine wp_ireturn rfl .int rfl rfl ?_
      exact no (fun h => ha h.1)
    · intro h5
      exact absurd rfl h5
theorem c_finish (hs : sc kd r p) (hR : sR d p S) (h20 : S.2.1 ≤ 20) : Cl X kX3_finish [.inr (some p), .inl a, .inl b, .inl c] (K, z, kd, d, r) (sPs K z kd r d p (aFin S a b c)) := by
  obtain ⟨wc, tc, quo, cap, g, bd⟩ := S
  obtain ⟨k0, r0, r1, r2, r3, r4, r5, k1, k2, k3, k4, k5, k6, rt, kt, hp⟩ := hs
  have hR0 := hR
  obtain ⟨hwc, htc, e1, e2, e3, e4⟩ := hR
  dsimp only at hwc htc e1 e2 e3 e4 h20
  subst e1 e2 e3 e4
  refine h_ofWp oX3_finish (by decide) (Nat.le_of_ble_eq_true rfl) ?_
  have no : ¬ (inR a 0 tc ∧ tk d p a.toNatClampNeg 4 = 1 ∧ tk d p a.toNatClampNeg 5 = b) → sPs K z kd r d p (aFin (wc, tc, d (p + 1), d (p + 3), tk d p, d (p + 2)) a b c) (some (.inl 0)) (K, z, kd, d, r) := fun h => by
    rw [aFin, cIf_f h]
    exact sPs_same hR0
  refine wp_aload_n rfl rfl ?_
  refine wp_iload_n rfl rfl ?_
  refine wp_V1 rfl mX3_finish_101 (k0) (Nat.le_of_ble_eq_true rfl) (c_isTask k0 htc (by omega)) ?_
  rintro _ _ ⟨v, rfl, rfl, hv⟩
  rcases rg_1 hv with ⟨rfl, ha⟩ | ⟨rfl, ha⟩
  · obtain ⟨t, -, ht, rfl⟩ := ha
    have ct : (nI t).toNatClampNeg = t := nI_clamp (by omega)
    have yes : (tk d p t 4 = 1 ∧ tk d p t 5 = b) → Wp X kX3_finish K z 36 [some (.inr (some p)), some (.inl (nI t)), some (.inl b), some (.inl c)] [] (K, z, kd, d, r) (sPs K z kd r d p (aFin (wc, tc, d (p + 1), d (p + 3), tk d p, d (p + 2)) (nI t) b c)) := by
      intro h
      refine wp_aload_n rfl rfl ?_
      refine st_getR rfl fX3_21 rfl (by assumption) (by assumption) ?_
      refine wp_iload_n rfl rfl ?_
      refine st_aald (t0 := 4) rfl (by assumption) rfl rfl (by omega) (by decide) (rt _ (by omega)) ?_
      refine wp_iconst (v := 2) rfl (by decide) ?_
      refine wp_V1 rfl mX3_finish_122 (kt _ (by omega)) (Nat.le_of_ble_eq_true rfl) (c_leave (kt _ (by omega))) ?_
      rintro _ _ ⟨rfl, rfl⟩
      refine wp_aload_n rfl rfl ?_
      refine st_getR rfl fX3_21 rfl (by assumption) (by assumption) ?_
      refine wp_iload_n rfl rfl ?_
      refine st_aald (t0 := 4) rfl (by assumption) rfl rfl (by omega) (by decide) (rt _ (by omega)) ?_
      refine wp_iload_n rfl rfl ?_
      refine st_putI rfl fX3_126 rfl rfl ⟨rfl, rfl⟩ (kt _ (by omega)) ?_
      refine wp_iconst (v := 1) rfl (by decide) ?_
      refine wp_ireturn rfl .int rfl rfl ?_
      rw [aFin, cIf_t ⟨⟨t, Nat.zero_le _, ht, rfl⟩, by dsimp only; rw [ct]; exact h⟩, ct]
      refine ⟨rfl, _, rfl, fun q hq => ?_, ?_⟩
      · rw [row_n (by omega), row_n (by omega), row_n (by omega)]
      · refine ⟨?_, ?_, ?_, ?_, ?_, ?_⟩
        · rw [row_n (by omega), row_n (by omega), row_n (by omega)]; exact hwc
        · rw [row_n (by omega), row_n (by omega), row_n (by omega)]; exact htc
        · rw [row_n (by omega), row_n (by omega), row_n (by omega)]
        · rw [row_n (by omega), row_n (by omega), row_n (by omega)]
        · rw [tk_hu, tk_hu, tk_hu]
        · rw [row_n (by omega), row_n (by omega), row_n (by omega)]
    refine wp_if_eq (tgt := 34) rfl (by decide) ?_ ?_
    · intro h5
      refine wp_iconst (v := 0) rfl (by decide) ?_
      refine wp_ireturn rfl .int rfl rfl ?_
      first | exact absurd h5 (by decide) | exact no (fun h => by rw [ct] at h; exact h18 h.2.1) | exact no (fun h => by rw [ct] at h; exact h31 h.2.2)
    · intro h5
      refine wp_aload_n rfl rfl ?_
      refine st_getR rfl fX3_21 rfl (by assumption) (by assumption) ?_
      refine wp_iload_n rfl rfl ?_
      refine st_aald (t0 := 4) rfl (by assumption) rfl rfl (by omega) (by decide) (rt _ (by omega)) ?_
      refine st_getI rfl fX3_116 rfl (kt _ (by omega)) rfl ?_
      refine wp_iconst (v := 1) rfl (by decide) ?_
      refine wp_icmp_ne (tgt := 34) rfl (by decide) ?_ ?_
      · intro h18
        refine wp_iconst (v := 0) rfl (by decide) ?_
        refine wp_ireturn rfl .int rfl rfl ?_
        first | exact absurd h5 (by decide) | exact no (fun h => by rw [ct] at h; exact h18 h.2.1) | exact no (fun h => by rw [ct] at h; exact h31 h.2.2)
      · intro h18
        refine wp_aload_n rfl rfl ?_
        refine st_getR rfl fX3_21 rfl (by assumption) (by assumption) ?_
        refine wp_iload_n rfl rfl ?_
        refine st_aald (t0 := 4) rfl (by assumption) rfl rfl (by omega) (by decide) (rt _ (by omega)) ?_
        refine st_getI rfl fX3_119 rfl (kt _ (by omega)) rfl ?_
        refine wp_iload_n rfl rfl ?_
        refine wp_icmp_eq (tgt := 36) rfl (by decide) ?_ ?_
        · intro h31
          exact yes ⟨h18, h31⟩
        · intro h31
          refine wp_iconst (v := 0) rfl (by decide) ?_
          refine wp_ireturn rfl .int rfl rfl ?_
          first | exact absurd h5 (by decide) | exact no (fun h => by rw [ct] at h; exact h18 h.2.1) | exact no (fun h => by rw [ct] at h; exact h31 h.2.2)
  · refine wp_if_eq (tgt := 34) rfl (by decide) ?_ ?_
    · intro h5
      refine wp_iconst (v := 0) rfl (by decide) ?_
      refine wp_ireturn rfl .int rfl rfl ?_
      exact no (fun h => ha h.1)
    · intro h5
      exact absurd rfl h5
theorem c_stand (hs : sc kd r p) (hR : sR d p S) (h20 : S.2.1 ≤ 20) : Cl X kX3_standing [.inr (some p), .inl a] (K, z, kd, d, r) (sPs K z kd r d p (aStand S a)) := by
  refine (c_standing (tc := S.2.1) hs hR.2.1 h20).mono ?_
  rintro rv M' ⟨rfl, ⟨j, hj, rfl, rfl⟩ | ⟨h, rfl⟩⟩
  · rw [aStand, cIf_t ⟨j, Nat.zero_le _, hj, rfl⟩, nI_clamp (show j < 2 ^ 31 by omega), ← hR.2.2.2.2.1]
    exact sPs_same hR
  · rw [aStand, cIf_f (fun ⟨j, _, hj, e⟩ => h j hj e)]
    exact sPs_same hR
theorem c_endLease (hs : sc kd r p) (hR : sR d p S) (h20 : S.2.1 ≤ 20) (h6 : S.1 ≤ 6) : Cl X kX3_endLease [.inr (some p), .inl a] (K, z, kd, d, r) (sPs K z kd r d p (aLease S a)) := by
  obtain ⟨wc, tc, quo, cap, g, bd⟩ := S
  obtain ⟨k0, r0, r1, r2, r3, r4, r5, k1, k2, k3, k4, k5, k6, rt, kt, hp⟩ := hs
  have hR0 := hR
  obtain ⟨hwc, htc, e1, e2, e3, e4⟩ := hR
  dsimp only at hwc htc e1 e2 e3 e4 h20 h6
  subst e1 e2 e3 e4
  refine h_ofWp oX3_endLease (by decide) (Nat.le_of_ble_eq_true rfl) ?_
  refine wp_aload_n rfl rfl ?_
  refine wp_iload_n rfl rfl ?_
  refine wp_V1 rfl mX3_endLease_129 (k0) (Nat.le_of_ble_eq_true rfl) (c_isWorker k0 hwc (by omega)) ?_
  rintro _ _ ⟨v, rfl, rfl, hv⟩
  rcases rg_1 hv with ⟨rfl, ha⟩ | ⟨rfl, ha⟩
  · have loop : ∀ n k d', k + n = tc → (∀ q, (q < p + 7 ∨ p + 27 ≤ q) → d' q = d q) → tk d' p = (sLe (tk d p) a k).1 → Wp X kX3_endLease K z 14 [some (.inr (some p)), some (.inl a), some (.inl (nI (sLe (tk d p) a k).2)), some (.inl (nI k))] [] (K, z, kd, d', r) (sPs K z kd r d p (aLease (wc, tc, d (p + 1), d (p + 3), tk d p, d (p + 2)) a)) := by
      intro n
      induction n with
      | zero =>
        intro k d' hk hd ht
        have : k = tc := by omega
        subst this
        refine wp_iload_n rfl rfl ?_
        refine wp_aload_n rfl rfl ?_
        refine st_getI rfl fX3_37 rfl (by assumption) ((congrFun (hd p (by omega)) 7).trans htc) ?_
        refine wp_icmp_ge (tgt := 54) rfl (by decide) ?_ ?_
        · intro _
          refine wp_iload_n rfl rfl ?_
          refine wp_ireturn rfl .int rfl rfl ?_
          rw [aLease, cIf_t ha]
          exact ⟨rfl, d', rfl, fun q hq => hd q (by omega), (congrFun (hd p (by omega)) 6).trans hwc, (congrFun (hd p (by omega)) 7).trans htc, hd _ (by omega), hd _ (by omega), ht, hd _ (by omega)⟩
        · intro h
          exact absurd (nI_le (by omega) (by omega)) h
      | succ n ih =>
        intro k d' hk hd ht
        have hf : ∀ j, d' (p + 7 + k) j = (sLe (tk d p) a k).1 k j := fun j => congrFun (congrFun ht k) j
        refine wp_iload_n rfl rfl ?_
        refine wp_aload_n rfl rfl ?_
        refine st_getI rfl fX3_37 rfl (by assumption) ((congrFun (hd p (by omega)) 7).trans htc) ?_
        refine wp_icmp_ge (tgt := 54) rfl (by decide) ?_ ?_
        · intro h
          exact absurd h (nI_ge (by omega) (by omega))
        · intro _
          refine wp_aload_n rfl rfl ?_
          refine st_getR rfl fX3_21 rfl (by assumption) (by assumption) ?_
          refine wp_iload_n rfl rfl ?_
          refine st_aald (t0 := 4) rfl (by assumption) rfl rfl (by omega) (by decide) (rt _ (by omega)) ?_
          refine st_getI rfl fX3_132 rfl (kt _ (by omega)) (hf 6) ?_
          refine wp_iload_n rfl rfl ?_
          refine wp_icmp_ne (tgt := 48) rfl (by decide) ?_ ?_
          · intro h
            have e : sLe (tk d p) a (k + 1) = sLe (tk d p) a k := if_neg h
            refine wp_inc rfl rfl (by decide) ?_
            refine wp_goto (tgt := 14) rfl (by decide) ?_
            have := ih (k + 1) d' (by omega) hd (by rw [e]; exact ht)
            rw [e] at this
            exact this
          · intro h
            have e : sLe (tk d p) a (k + 1) = (hu (hu (sLe (tk d p) a k).1 k 4 0) k 6 (-1), (sLe (tk d p) a k).2 + 1) := if_pos h
            refine wp_aload_n rfl rfl ?_
            refine st_getR rfl fX3_21 rfl (by assumption) (by assumption) ?_
            refine wp_iload_n rfl rfl ?_
            refine st_aald (t0 := 4) rfl (by assumption) rfl rfl (by omega) (by decide) (rt _ (by omega)) ?_
            refine wp_iconst (v := 0) rfl (by decide) ?_
            refine wp_V1 rfl mX3_endLease_122 (kt _ (by omega)) (Nat.le_of_ble_eq_true rfl) (c_leave (kt _ (by omega))) ?_
            rintro _ _ ⟨rfl, rfl⟩
            refine wp_inc rfl rfl (by decide) ?_
            refine wp_inc rfl rfl (by decide) ?_
            refine wp_goto (tgt := 14) rfl (by decide) ?_
            have := ih (k + 1) (hu (hu d' (p + 7 + k) 4 0) (p + 7 + k) 6 (-1)) (by omega) (fun q hq => by rw [row_n (by omega), row_n (by omega), hd q hq]) (by rw [e, tk_hu, tk_hu, ht])
            rw [e] at this
            exact this
    refine wp_if_ne (tgt := 10) rfl (by decide) ?_ ?_
    · intro _
      refine wp_iconst (v := 0) rfl (by decide) ?_
      refine wp_istore_n rfl (by decide) ?_
      refine wp_iconst (v := 0) rfl (by decide) ?_
      refine wp_istore_n rfl (by decide) ?_
      exact loop tc 0 d (by omega) (fun _ _ => rfl) rfl
    · intro h
      exact absurd h (by decide)
  · refine wp_if_ne (tgt := 10) rfl (by decide) ?_ ?_
    · intro h
      exact absurd rfl h
    · intro _
      refine wp_iconst (v := 0) rfl (by decide) ?_
      refine wp_ireturn rfl .int rfl rfl ?_
      rw [aLease, cIf_f ha]
      exact sPs_same hR0
end ACTS
