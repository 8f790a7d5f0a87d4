/-! THE REFERENCE'S SCHEDULER: readers -/
/-- the reference's rows hold the scheduler S -/
def rS (d : Nat → Nat → Int32) (Y : Nat) (S : Sch) : Prop :=
  d Y 14 = nI S.1 ∧ d Y 16 = nI S.2.1 ∧ (∀ u, u < 4 → d (Y + 9) u = S.2.2.1 u) ∧ (∀ w, w < S.1 → d (Y + 10) w = S.2.2.2.1 w) ∧
  ∀ t, t < S.2.1 → d (Y + 11) t = S.2.2.2.2.1 t 0 ∧ d (Y + 12) t = S.2.2.2.2.1 t 1 ∧ d (Y + 13) t = S.2.2.2.2.1 t 2 ∧ d (Y + 14) t = S.2.2.2.2.1 t 3 ∧ d (Y + 15) t = S.2.2.2.2.1 t 4 ∧ d (Y + 16) t = S.2.2.2.2.1 t 5 ∧ d (Y + 18) t = S.2.2.2.2.1 t 7 ∧ (S.2.2.2.2.1 t 4 = 1 → d (Y + 17) t = S.2.2.2.2.1 t 6)
/-- a task's rank: lower priority first, then the greater number -/
def rkN (g : Nat → Nat → Int32) (t : Nat) : Nat := 100 * (g t 2).toNatClampNeg + 99 - t
/-- may give way on w to one of priority pq -/
def cnd (g : Nat → Nat → Int32) (tc w pq t : Nat) : Prop := t < tc ∧ g t 6 = nI w ∧ (g t 2).toNatClampNeg < pq
section RSCH
variable {X : hX} {K z : Nat} {kd : Nat → Option hK} {d d0 : Nat → Nat → Int32} {r : Nat → Nat → Option Nat} {Y : Nat} {S : Sch} {x y w : Int32}
theorem run_iff (hR : rS d Y S) (hF : sWf S) {t w : Nat} (ht : t < S.2.1) (hw : w < 1000) : (d (Y + 15) t = 1 ∧ d (Y + 17) t = nI w) ↔ S.2.2.2.2.1 t 6 = nI w := by
  obtain ⟨-, -, -, -, hT⟩ := hR
  obtain ⟨t0, t1, t2, t3, t4, t5, t7, t6⟩ := hT t ht
  obtain ⟨f1, -⟩ := hF.2.1 t ht
  constructor
  · rintro ⟨a, b⟩
    rw [t4] at a
    rw [← t6 a]; exact b
  · intro a
    have h4 : S.2.2.2.2.1 t 4 = 1 := Classical.not_not.mp (fun q => by rw [f1 q] at a; exact nI_m1 hw a)
    exact ⟨t4.trans h4, (t6 h4).trans a⟩
theorem r_free {w : Nat} (hS : rs kd r Y) (hR : rS d Y S) (hF : sWf S) (hw : w < S.1) : Cl X kX6_free [.inr (some Y), .inl (nI w)] (K, z, kd, d, r) (fun rv M' => rv = some (.inl (sFree (S.2.2.2.1 w) S.2.2.2.2.1 (nI w) S.2.1)) ∧ M' = (K, z, kd, d, r)) := by
  obtain ⟨k0, r2, r3, r4, r5, r6, r7, r8, r12, r13, r15, r17, r18, r19, r20, r21, r22, r23, r24, r25, k1, k2, k3, k4, k5, k6, k7, k8, k9, k10, k11, k12, k13, k14, k15, k16, k17, k18, k19, hY⟩ := id hS
  have hwc := hF.1.1
  have htc := hF.1.2.1
  obtain ⟨e14, e16, eq, ec, hT⟩ := id hR
  refine h_ofWp oX6_free (by decide) (Nat.le_of_ble_eq_true rfl) ?_
  have loop : ∀ n k, k + n = S.2.1 → Wp X kX6_free K z 9 [some (.inr (some Y)), some (.inl (nI w)), some (.inl (sFree (S.2.2.2.1 w) S.2.2.2.2.1 (nI w) k)), some (.inl (nI k))] [] (K, z, kd, d, r) (fun rv M' => rv = some (.inl (sFree (S.2.2.2.1 w) S.2.2.2.2.1 (nI w) S.2.1)) ∧ M' = (K, z, kd, d, r)) := by
    intro n
    induction n with
    | zero =>
      intro k hk
      have hk2 : k = S.2.1 := by omega
      refine wp_iload_n rfl rfl ?_
      refine wp_aload_n rfl rfl ?_
      refine st_getI rfl fX6_121 rfl (by assumption) (e16) ?_
      refine wp_icmp_ge (tgt := 56) rfl (by decide) ?_ ?_
      · intro _
        rw [hk2]
        refine wp_iload_n rfl rfl ?_
        refine wp_ireturn rfl .int rfl rfl (⟨rfl, rfl⟩)
      · intro h
        exact absurd (nI_le (by omega) (by omega)) h
    | succ n ih =>
      intro k hk
      have ih' := ih (k + 1) (by omega)
      have hiff := run_iff hR hF (t := k) (w := w) (by omega) (by omega)
      obtain ⟨t0, t1, t2, t3, t4, t5, t7, t6⟩ := hT k (by omega)
      have E1 : d (Y + 15) k = 1 → d (Y + 17) k = nI w → sFree (S.2.2.2.1 w) S.2.2.2.2.1 (nI w) (k + 1) = sFree (S.2.2.2.1 w) S.2.2.2.2.1 (nI w) k - S.2.2.2.2.1 k 1 := fun a b => if_pos (hiff.mp ⟨a, b⟩)
      have E2 : ¬ (d (Y + 15) k = 1 ∧ d (Y + 17) k = nI w) → sFree (S.2.2.2.1 w) S.2.2.2.2.1 (nI w) (k + 1) = sFree (S.2.2.2.1 w) S.2.2.2.2.1 (nI w) k := fun a => if_neg (fun q => a (hiff.mpr q))
      refine wp_iload_n rfl rfl ?_
      refine wp_aload_n rfl rfl ?_
      refine st_getI rfl fX6_121 rfl (by assumption) (e16) ?_
      refine wp_icmp_ge (tgt := 56) rfl (by decide) ?_ ?_
      · intro h
        exact absurd h (nI_ge (by omega) (by omega))
      · intro _
        refine wp_aload_n rfl rfl ?_
        refine st_getR rfl fX6_53 rfl (by assumption) (by assumption) ?_
        refine wp_iload_n rfl rfl ?_
        refine st_iald rfl (by assumption) rfl (by omega) (by first | decide | omega) rfl ?_
        refine wp_iconst (v := 1) rfl (by decide) ?_
        refine wp_icmp_ne (tgt := 48) rfl (by decide) ?_ ?_
        · intro h24
          refine wp_iload_n rfl rfl ?_
          refine wp_istore_n rfl (by decide) ?_
          refine wp_inc rfl rfl (by decide) ?_
          refine wp_goto (tgt := 9) rfl (by decide) ?_
          rw [E2 (fun q => h24 q.1)] at ih'
          exact ih'
        · intro h24
          refine wp_aload_n rfl rfl ?_
          refine st_getR rfl fX6_59 rfl (by assumption) (by assumption) ?_
          refine wp_iload_n rfl rfl ?_
          refine st_iald rfl (by assumption) rfl (by omega) (by first | decide | omega) rfl ?_
          refine wp_iload_n rfl rfl ?_
          refine wp_icmp_ne (tgt := 48) rfl (by decide) ?_ ?_
          · intro h34
            refine wp_iload_n rfl rfl ?_
            refine wp_istore_n rfl (by decide) ?_
            refine wp_inc rfl rfl (by decide) ?_
            refine wp_goto (tgt := 9) rfl (by decide) ?_
            rw [E2 (fun q => h34 q.2)] at ih'
            exact ih'
          · intro h34
            refine wp_iload_n rfl rfl ?_
            refine wp_aload_n rfl rfl ?_
            refine st_getR rfl fX6_44 rfl (by assumption) (by assumption) ?_
            refine wp_iload_n rfl rfl ?_
            refine st_iald rfl (by assumption) rfl (by omega) (by first | decide | omega) (t1) ?_
            refine wp_isub rfl ?_
            refine wp_goto (tgt := 49) rfl (by decide) ?_
            refine wp_istore_n rfl (by decide) ?_
            refine wp_inc rfl rfl (by decide) ?_
            refine wp_goto (tgt := 9) rfl (by decide) ?_
            rw [E1 h24 h34] at ih'
            exact ih'
  refine wp_aload_n rfl rfl ?_
  refine st_getR rfl fX6_38 rfl (by assumption) (by assumption) ?_
  refine wp_iload_n rfl rfl ?_
  refine st_iald rfl (by assumption) rfl (by omega) (by first | decide | omega) (ec w hw) ?_
  refine wp_istore_n rfl (by decide) ?_
  refine wp_iconst (v := 0) rfl (by decide) ?_
  refine wp_istore_n rfl (by decide) ?_
  exact loop S.2.1 0 (by omega)
theorem r_uses (hS : rs kd r Y) (hR : rS d Y S) (hF : sWf S) : Cl X kX6_uses [.inr (some Y), .inl x] (K, z, kd, d, r) (fun rv M' => rv = some (.inl (sUsed S.2.2.2.2.1 x S.2.1)) ∧ M' = (K, z, kd, d, r)) := by
  obtain ⟨k0, r2, r3, r4, r5, r6, r7, r8, r12, r13, r15, r17, r18, r19, r20, r21, r22, r23, r24, r25, k1, k2, k3, k4, k5, k6, k7, k8, k9, k10, k11, k12, k13, k14, k15, k16, k17, k18, k19, hY⟩ := id hS
  have htc := hF.1.2.1
  obtain ⟨e14, e16, eq, ec, hT⟩ := id hR
  refine h_ofWp oX6_uses (by decide) (Nat.le_of_ble_eq_true rfl) ?_
  have loop : ∀ n k, k + n = S.2.1 → Wp X kX6_uses K z 4 [some (.inr (some Y)), some (.inl x), some (.inl (sUsed S.2.2.2.2.1 x k)), some (.inl (nI k))] [] (K, z, kd, d, r) (fun rv M' => rv = some (.inl (sUsed S.2.2.2.2.1 x S.2.1)) ∧ M' = (K, z, kd, d, r)) := by
    intro n
    induction n with
    | zero =>
      intro k hk
      have hk2 : k = S.2.1 := by omega
      refine wp_iload_n rfl rfl ?_
      refine wp_aload_n rfl rfl ?_
      refine st_getI rfl fX6_121 rfl (by assumption) (e16) ?_
      refine wp_icmp_ge (tgt := 51) rfl (by decide) ?_ ?_
      · intro _
        rw [hk2]
        refine wp_iload_n rfl rfl ?_
        refine wp_ireturn rfl .int rfl rfl (⟨rfl, rfl⟩)
      · intro h
        exact absurd (nI_le (by omega) (by omega)) h
    | succ n ih =>
      intro k hk
      have ih' := ih (k + 1) (by omega)
      obtain ⟨t0, t1, t2, t3, t4, t5, t7, t6⟩ := hT k (by omega)
      have E1 : S.2.2.2.2.1 k 4 = 1 → S.2.2.2.2.1 k 0 = x → sUsed S.2.2.2.2.1 x (k + 1) = sUsed S.2.2.2.2.1 x k + S.2.2.2.2.1 k 1 := fun a b => if_pos ⟨b, a⟩
      have E2 : ¬ (S.2.2.2.2.1 k 4 = 1 ∧ S.2.2.2.2.1 k 0 = x) → sUsed S.2.2.2.2.1 x (k + 1) = sUsed S.2.2.2.2.1 x k := fun a => if_neg (fun q => a ⟨q.2, q.1⟩)
      refine wp_iload_n rfl rfl ?_
      refine wp_aload_n rfl rfl ?_
      refine st_getI rfl fX6_121 rfl (by assumption) (e16) ?_
      refine wp_icmp_ge (tgt := 51) rfl (by decide) ?_ ?_
      · intro h
        exact absurd h (nI_ge (by omega) (by omega))
      · intro _
        refine wp_aload_n rfl rfl ?_
        refine st_getR rfl fX6_53 rfl (by assumption) (by assumption) ?_
        refine wp_iload_n rfl rfl ?_
        refine st_iald rfl (by assumption) rfl (by omega) (by first | decide | omega) (t4) ?_
        refine wp_iconst (v := 1) rfl (by decide) ?_
        refine wp_icmp_ne (tgt := 43) rfl (by decide) ?_ ?_
        · intro h19
          refine wp_iload_n rfl rfl ?_
          refine wp_istore_n rfl (by decide) ?_
          refine wp_inc rfl rfl (by decide) ?_
          refine wp_goto (tgt := 4) rfl (by decide) ?_
          rw [E2 (fun q => h19 q.1)] at ih'
          exact ih'
        · intro h19
          refine wp_aload_n rfl rfl ?_
          refine st_getR rfl fX6_41 rfl (by assumption) (by assumption) ?_
          refine wp_iload_n rfl rfl ?_
          refine st_iald rfl (by assumption) rfl (by omega) (by first | decide | omega) (t0) ?_
          refine wp_iload_n rfl rfl ?_
          refine wp_icmp_ne (tgt := 43) rfl (by decide) ?_ ?_
          · intro h29
            refine wp_iload_n rfl rfl ?_
            refine wp_istore_n rfl (by decide) ?_
            refine wp_inc rfl rfl (by decide) ?_
            refine wp_goto (tgt := 4) rfl (by decide) ?_
            rw [E2 (fun q => h29 q.2)] at ih'
            exact ih'
          · intro h29
            refine wp_iload_n rfl rfl ?_
            refine wp_aload_n rfl rfl ?_
            refine st_getR rfl fX6_44 rfl (by assumption) (by assumption) ?_
            refine wp_iload_n rfl rfl ?_
            refine st_iald rfl (by assumption) rfl (by omega) (by first | decide | omega) (t1) ?_
            refine wp_iadd rfl ?_
            refine wp_goto (tgt := 44) rfl (by decide) ?_
            refine wp_istore_n rfl (by decide) ?_
            refine wp_inc rfl rfl (by decide) ?_
            refine wp_goto (tgt := 4) rfl (by decide) ?_
            rw [E1 h19 h29] at ih'
            exact ih'
  refine wp_iconst (v := 0) rfl (by decide) ?_
  refine wp_istore_n rfl (by decide) ?_
  refine wp_iconst (v := 0) rfl (by decide) ?_
  refine wp_istore_n rfl (by decide) ?_
  exact loop S.2.1 0 (by omega)
theorem r_rank {t : Nat} (hS : rs kd r Y) (hR : rS d Y S) (hF : sWf S) (ht : t < S.2.1) : Cl X kX6_rank [.inr (some Y), .inl (nI t)] (K, z, kd, d, r) (fun rv M' => rv = some (.inl (nI (rkN S.2.2.2.2.1 t))) ∧ M' = (K, z, kd, d, r)) := by
  obtain ⟨k0, r2, r3, r4, r5, r6, r7, r8, r12, r13, r15, r17, r18, r19, r20, r21, r22, r23, r24, r25, k1, k2, k3, k4, k5, k6, k7, k8, k9, k10, k11, k12, k13, k14, k15, k16, k17, k18, k19, hY⟩ := id hS
  have htc := hF.1.2.1
  obtain ⟨e14, e16, eq, ec, hT⟩ := id hR
  obtain ⟨t0, t1, t2, t3, t4, t5, t7, t6⟩ := hT t ht
  obtain ⟨-, q, hq4, eq2⟩ := hF.1.2.2 t ht
  refine h_ofWp oX6_rank (by decide) (Nat.le_of_ble_eq_true rfl) ?_
  refine wp_bipush (v := 100) rfl (by decide) ?_
  refine wp_aload_n rfl rfl ?_
  refine st_getR rfl fX6_47 rfl (by assumption) (by assumption) ?_
  refine wp_iload_n rfl rfl ?_
  refine st_iald rfl (by assumption) rfl (by omega) (by first | decide | omega) (t2.trans eq2) ?_
  refine wp_imul rfl ?_
  refine wp_bipush (v := 99) rfl (by decide) ?_
  refine wp_iadd rfl ?_
  refine wp_iload_n rfl rfl ?_
  refine wp_isub rfl ?_
  refine wp_ireturn rfl .int rfl rfl ?_
  refine ⟨?_, rfl⟩
  have e1 : (100 : Int32) * nI q + 99 - nI t = nI (rkN S.2.2.2.2.1 t) := by
    have a1 : (100 : Int32) * nI q = nI (100 * q) := pk_mul 100 q
    have a2 : nI (100 * q) + 99 = nI (100 * q + 99) := nI_add (100 * q) 99
    rw [a1, a2, pk_sub (by omega), rkN, eq2, nI_clamp (by omega)]
  rw [e1]
theorem rk_lt (hF : sWf S) {t : Nat} (ht : t < S.2.1) : rkN S.2.2.2.2.1 t < 1000 ∧ t < 20 := by
  have htc := hF.1.2.1
  obtain ⟨-, q, hq4, eq2⟩ := hF.1.2.2 t ht
  rw [rkN, eq2, nI_clamp (by omega)]
  omega
theorem rk_inj (hF : sWf S) {t s : Nat} (ht : t < S.2.1) (hs : s < S.2.1) (h : rkN S.2.2.2.2.1 t = rkN S.2.2.2.2.1 s) : t = s := by
  have htc := hF.1.2.1
  obtain ⟨-, q, hq4, eq2⟩ := hF.1.2.2 t ht
  obtain ⟨-, q', hq4', eq2'⟩ := hF.1.2.2 s hs
  rw [rkN, rkN, eq2, eq2', nI_clamp (by omega), nI_clamp (by omega)] at h
  omega
/-- the first candidate behind rank a (a = 0: before all; else rank + 1) -/
theorem r_weakest {w pq : Nat} {a : Nat} (hS : rs kd r Y) (hR : rS d Y S) (hF : sWf S) (hw : w < 1000) (hpq : pq < 1000) (ha : a < 1001) (hy : y = nI a - 1) : Cl X kX6_weakest [.inr (some Y), .inl (nI w), .inl (nI pq), .inl y] (K, z, kd, d, r) (fun rv M' => M' = (K, z, kd, d, r) ∧ ((rv = some (.inl (-1)) ∧ ∀ t, cnd S.2.2.2.2.1 S.2.1 w pq t → rkN S.2.2.2.2.1 t < a) ∨ ∃ t, rv = some (.inl (nI t)) ∧ cnd S.2.2.2.2.1 S.2.1 w pq t ∧ a ≤ rkN S.2.2.2.2.1 t ∧ ∀ s, cnd S.2.2.2.2.1 S.2.1 w pq s → a ≤ rkN S.2.2.2.2.1 s → rkN S.2.2.2.2.1 t ≤ rkN S.2.2.2.2.1 s)) := by
  obtain ⟨k0, r2, r3, r4, r5, r6, r7, r8, r12, r13, r15, r17, r18, r19, r20, r21, r22, r23, r24, r25, k1, k2, k3, k4, k5, k6, k7, k8, k9, k10, k11, k12, k13, k14, k15, k16, k17, k18, k19, hY⟩ := id hS
  have htc := hF.1.2.1
  obtain ⟨e14, e16, eq, ec, hT⟩ := id hR
  refine h_ofWp oX6_weakest (by decide) (Nat.le_of_ble_eq_true rfl) ?_
  generalize hQ : (fun (rv : Option hV) (M' : hM) => M' = (K, z, kd, d, r) ∧ ((rv = some (.inl (-1)) ∧ ∀ t, cnd S.2.2.2.2.1 S.2.1 w pq t → rkN S.2.2.2.2.1 t < a) ∨ ∃ t, rv = some (.inl (nI t)) ∧ cnd S.2.2.2.2.1 S.2.1 w pq t ∧ a ≤ rkN S.2.2.2.2.1 t ∧ ∀ s, cnd S.2.2.2.2.1 S.2.1 w pq s → a ≤ rkN S.2.2.2.2.1 s → rkN S.2.2.2.2.1 t ≤ rkN S.2.2.2.2.1 s)) = Q
  -- y is less than the rank n exactly if a is at most n
  have hyn : ∀ n, n < 1000 → (nI n ≤ y ↔ n < a) := fun n hn => by
    have e1 : (nI a - 1).toInt = (a : Int) - 1 := by
      have := i_sub (a := nI a) (b := 1) (by rw [i_nI (by omega), show (1 : Int32).toInt = 1 by decide]; omega) (by rw [i_nI (by omega), show (1 : Int32).toInt = 1 by decide]; omega)
      rw [this, i_nI (by omega), show (1 : Int32).toInt = 1 by decide]
    rw [i_le, hy, e1, i_nI (by omega)]
    omega
  -- what has been found among the first k
  have loop : ∀ n k v x6, k + n = S.2.1 → ((v = -1 ∧ ∀ t, t < k → cnd S.2.2.2.2.1 S.2.1 w pq t → rkN S.2.2.2.2.1 t < a) ∨ ∃ t, v = nI t ∧ t < k ∧ cnd S.2.2.2.2.1 S.2.1 w pq t ∧ a ≤ rkN S.2.2.2.2.1 t ∧ ∀ s, s < k → cnd S.2.2.2.2.1 S.2.1 w pq s → a ≤ rkN S.2.2.2.2.1 s → rkN S.2.2.2.2.1 t ≤ rkN S.2.2.2.2.1 s) → Wp X kX6_weakest K z 6 [some (.inr (some Y)), some (.inl (nI w)), some (.inl (nI pq)), some (.inl y), some (.inl v), some (.inl (nI k)), x6] [] (K, z, kd, d, r) Q := by
    intro n
    induction n with
    | zero =>
      intro k v x6 hk hv
      have hk2 : k = S.2.1 := by omega
      refine wp_iload rfl rfl ?_
      refine wp_aload_n rfl rfl ?_
      refine st_getI rfl fX6_121 rfl (by assumption) (e16) ?_
      refine wp_icmp_ge (tgt := 105) rfl (by decide) ?_ ?_
      · intro _
        refine wp_iload rfl rfl ?_
        refine wp_ireturn rfl .int rfl rfl ?_
        rw [← hQ]
        refine ⟨rfl, ?_⟩
        rcases hv with ⟨rfl, h⟩ | ⟨t, rfl, h1, h2, h3, h4⟩
        · exact Or.inl ⟨rfl, fun t ht => h t (by rw [hk2]; exact ht.1) ht⟩
        · exact Or.inr ⟨t, rfl, h2, h3, fun s hs => h4 s (by rw [hk2]; exact hs.1) hs⟩
      · intro h
        exact absurd (nI_le (by omega) (by omega)) h
    | succ n ih =>
      intro k v x6 hk hv
      have hkt : k < S.2.1 := by omega
      have hiff := run_iff hR hF (t := k) (w := w) hkt hw
      obtain ⟨t0, t1, t2, t3, t4, t5, t7, t6⟩ := hT k hkt
      obtain ⟨-, q, hq4, eq2⟩ := hF.1.2.2 k hkt
      have hrk := rk_lt hF hkt
      -- not a candidate, or not behind a
      have skip : ¬ (cnd S.2.2.2.2.1 S.2.1 w pq k ∧ a ≤ rkN S.2.2.2.2.1 k) → Wp X kX6_weakest K z 62 [some (.inr (some Y)), some (.inl (nI w)), some (.inl (nI pq)), some (.inl y), some (.inl v), some (.inl (nI k)), x6] [] (K, z, kd, d, r) Q := by
        intro hno
        refine wp_iconst (v := 0) rfl (by decide) ?_
        refine wp_istore rfl (by decide) ?_
        refine wp_iload rfl rfl ?_
        refine wp_if_eq (tgt := 95) rfl (by decide) ?_ ?_
        · intro _
          refine wp_iload rfl rfl ?_
          refine wp_istore rfl (by decide) ?_
          refine wp_inc rfl rfl (by decide) ?_
          refine wp_goto (tgt := 6) rfl (by decide) ?_
          refine ih (k + 1) v _ (by omega) ?_
          rcases hv with ⟨rfl, h⟩ | ⟨t, rfl, h1, h2, h3, h4⟩
          · refine Or.inl ⟨rfl, fun t ht hc => ?_⟩
            by_cases e : t = k
            · subst e
              rcases Nat.lt_or_ge (rkN S.2.2.2.2.1 t) a with q | q
              · exact q
              · exact absurd ⟨hc, q⟩ hno
            · exact h t (by omega) hc
          · refine Or.inr ⟨t, rfl, by omega, h2, h3, fun s hs hc hr => ?_⟩
            by_cases e : s = k
            · subst e; exact absurd ⟨hc, hr⟩ hno
            · exact h4 s (by omega) hc hr
        · intro h
          exact absurd rfl h
      refine wp_iload rfl rfl ?_
      refine wp_aload_n rfl rfl ?_
      refine st_getI rfl fX6_121 rfl (by assumption) (e16) ?_
      refine wp_icmp_ge (tgt := 105) rfl (by decide) ?_ ?_
      · intro h
        exact absurd h (nI_ge (by omega) (by omega))
      · intro _
        refine wp_aload_n rfl rfl ?_
        refine st_getR rfl fX6_53 rfl (by assumption) (by assumption) ?_
        refine wp_iload rfl rfl ?_
        refine st_iald rfl (by assumption) rfl (by omega) (by first | decide | omega) rfl ?_
        refine wp_iconst (v := 1) rfl (by decide) ?_
        refine wp_icmp_ne (tgt := 62) rfl (by decide) ?_ ?_
        · intro h23
          exact skip (fun q => h23 ((hiff.mpr q.1.2.1).1))
        · intro h23
          refine wp_aload_n rfl rfl ?_
          refine st_getR rfl fX6_59 rfl (by assumption) (by assumption) ?_
          refine wp_iload rfl rfl ?_
          refine st_iald rfl (by assumption) rfl (by omega) (by first | decide | omega) rfl ?_
          refine wp_iload_n rfl rfl ?_
          refine wp_icmp_ne (tgt := 62) rfl (by decide) ?_ ?_
          · intro h34
            exact skip (fun q => h34 ((hiff.mpr q.1.2.1).2))
          · intro h34
            have hpl := hiff.mp ⟨h23, h34⟩
            refine wp_aload_n rfl rfl ?_
            refine st_getR rfl fX6_47 rfl (by assumption) (by assumption) ?_
            refine wp_iload rfl rfl ?_
            refine st_iald rfl (by assumption) rfl (by omega) (by first | decide | omega) (t2.trans eq2) ?_
            refine wp_iload_n rfl rfl ?_
            refine wp_icmp_ge (tgt := 62) rfl (by decide) ?_ ?_
            · intro h45
              have := (nI_leI (by omega) (by omega)).mp h45
              refine skip (fun c => ?_)
              have h9 := c.1.2.2
              rw [eq2, nI_clamp (by omega)] at h9
              omega
            · intro h45
              have hqp : q < pq := by
                rcases Nat.lt_or_ge q pq with h | h
                · exact h
                · exact absurd (nI_le h (by omega)) h45
              have hcn : cnd S.2.2.2.2.1 S.2.1 w pq k := ⟨hkt, hpl, by rw [eq2, nI_clamp (by omega)]; exact hqp⟩
              refine wp_aload_n rfl rfl ?_
              refine wp_iload rfl rfl ?_
              refine wp_V1 rfl mX6_weakest_139 (k0) (Nat.le_of_ble_eq_true rfl) (r_rank hS hR hF hkt) ?_
              rintro _ _ ⟨rfl, rfl⟩
              refine wp_iload_n rfl rfl ?_
              refine wp_icmp_le (tgt := 62) rfl (by decide) ?_ ?_
              · intro h55
                exact skip (fun c => by have := (hyn _ hrk.1).mp h55; omega)
              · intro h55
                have hak : a ≤ rkN S.2.2.2.2.1 k := by
                  rcases Nat.lt_or_ge (rkN S.2.2.2.2.1 k) a with h | h
                  · exact absurd ((hyn _ hrk.1).mpr h) h55
                  · exact h
                have take : (∀ s, s < k → cnd S.2.2.2.2.1 S.2.1 w pq s → a ≤ rkN S.2.2.2.2.1 s → rkN S.2.2.2.2.1 k ≤ rkN S.2.2.2.2.1 s) → ∀ x6, Wp X kX6_weakest K z 90 [some (.inr (some Y)), some (.inl (nI w)), some (.inl (nI pq)), some (.inl y), some (.inl v), some (.inl (nI k)), x6] [] (K, z, kd, d, r) Q := by
                  intro hmin x6
                  refine wp_iload rfl rfl ?_
                  refine wp_goto (tgt := 97) rfl (by decide) ?_
                  refine wp_istore rfl (by decide) ?_
                  refine wp_inc rfl rfl (by decide) ?_
                  refine wp_goto (tgt := 6) rfl (by decide) ?_
                  refine ih (k + 1) (nI k) _ (by omega) (Or.inr ⟨k, rfl, by omega, hcn, hak, fun s hs hc hr => ?_⟩)
                  by_cases e : s = k
                  · subst e; exact Nat.le_refl _
                  · exact hmin s (by omega) hc hr
                refine wp_iconst (v := 1) rfl (by decide) ?_
                refine wp_goto (tgt := 63) rfl (by decide) ?_
                refine wp_istore rfl (by decide) ?_
                refine wp_iload rfl rfl ?_
                refine wp_if_eq (tgt := 95) rfl (by decide) ?_ ?_
                · intro h
                  exact absurd h (by decide)
                · intro _
                  rcases hv with ⟨rfl, h⟩ | ⟨t, rfl, h1, h2, h3, h4⟩
                  · refine wp_iload rfl rfl ?_
                    refine wp_if_lt (tgt := 90) rfl (by decide) ?_ ?_
                    · intro _
                      exact take (fun s hs hc hr => absurd (h s hs hc) (by omega)) _
                    · intro hc
                      exact absurd (by decide) hc
                  · have htr := rk_lt hF h2.1
                    refine wp_iload rfl rfl ?_
                    refine wp_if_lt (tgt := 90) rfl (by decide) ?_ ?_
                    · intro hc
                      exact absurd hc (nI_pos (by omega))
                    · intro _
                      refine wp_aload_n rfl rfl ?_
                      refine wp_iload rfl rfl ?_
                      refine wp_V1 rfl mX6_weakest_139 (k0) (Nat.le_of_ble_eq_true rfl) (r_rank hS hR hF hkt) ?_
                      rintro _ _ ⟨rfl, rfl⟩
                      refine wp_aload_n rfl rfl ?_
                      refine wp_iload rfl rfl ?_
                      refine wp_V1 rfl mX6_weakest_139 (k0) (Nat.le_of_ble_eq_true rfl) (r_rank hS hR hF h2.1) ?_
                      rintro _ _ ⟨rfl, rfl⟩
                      refine wp_icmp_ge (tgt := 95) rfl (by decide) ?_ ?_
                      · intro h87
                        have hle := (nI_leI (by omega) (by omega)).mp h87
                        refine wp_iload rfl rfl ?_
                        refine wp_istore rfl (by decide) ?_
                        refine wp_inc rfl rfl (by decide) ?_
                        refine wp_goto (tgt := 6) rfl (by decide) ?_
                        refine ih (k + 1) (nI t) _ (by omega) (Or.inr ⟨t, rfl, by omega, h2, h3, fun s hs hc hr => ?_⟩)
                        by_cases e : s = k
                        · subst e; exact hle
                        · exact h4 s (by omega) hc hr
                      · intro h87
                        have hlt : rkN S.2.2.2.2.1 k < rkN S.2.2.2.2.1 t := by
                          rcases Nat.lt_or_ge (rkN S.2.2.2.2.1 k) (rkN S.2.2.2.2.1 t) with h | h
                          · exact h
                          · exact absurd (nI_le h (by omega)) h87
                        exact take (fun s hs hc hr => Nat.le_trans (Nat.le_of_lt hlt) (h4 s hs hc hr)) _
  refine wp_iconst (v := -1) rfl (by decide) ?_
  refine wp_istore rfl (by decide) ?_
  refine wp_iconst (v := 0) rfl (by decide) ?_
  refine wp_istore rfl (by decide) ?_
  exact loop S.2.1 0 (-1) none (by omega) (Or.inl ⟨rfl, fun t ht => absurd ht (by omega)⟩)
end RSCH
