/-! THE CLASS'S SCHEDULER: shape at place p; readers -/
def sc (kd : Nat → Option hK) (r : Nat → Nat → Option Nat) (p : Nat) : Prop :=
  kd p = some (.inl 3) ∧ r p 0 = some (p + 1) ∧ r p 1 = some (p + 2) ∧ r p 2 = some (p + 3) ∧ r p 3 = some (p + 4) ∧ r p 4 = some (p + 5) ∧ r p 5 = some (p + 6) ∧
  kd (p + 1) = some (.inr (.inl (.int, 4))) ∧ kd (p + 2) = some (.inr (.inl (.int, 4))) ∧ kd (p + 3) = some (.inr (.inl (.int, 6))) ∧ kd (p + 4) = some (.inr (.inr (.object RX4, 20))) ∧ kd (p + 5) = some (.inr (.inl (.boolean, 20))) ∧ kd (p + 6) = some (.inr (.inl (.int, 20))) ∧
  (∀ k, k < 20 → r (p + 4) k = some (p + 7 + k)) ∧ (∀ k, k < 20 → kd (p + 7 + k) = some (.inl 4)) ∧ 0 < p
/-- what is free of a worker, from the first k tasks; g t j: field j of task t -/
def sFree (cap : Int32) (g : Nat → Nat → Int32) (w : Int32) : Nat → Int32
  | 0 => cap
  | k + 1 => if g k 6 = w then sFree cap g w k - g k 1 else sFree cap g w k
/-- what a user uses -/
def sUsed (g : Nat → Nat → Int32) (u : Int32) : Nat → Int32
  | 0 => 0
  | k + 1 => if g k 0 = u ∧ g k 4 = 1 then sUsed g u k + g k 1 else sUsed g u k
def tk (d : Nat → Nat → Int32) (p : Nat) : Nat → Nat → Int32 := fun t j => d (p + 7 + t) j
section SCHED
variable {X : hX} {K z : Nat} {kd : Nat → Option hK} {d : Nat → Nat → Int32} {r : Nat → Nat → Option Nat} {p tc : Nat}
theorem c_freeOn {w : Nat} (hs : sc kd r p) (htc : d p 7 = nI tc) (h20 : tc ≤ 20) (hw : w < 6) : Cl X kX3_freeOn [.inr (some p), .inl (nI w)] (K, z, kd, d, r) (fun rv M' => rv = some (.inl (sFree (d (p + 3) w) (tk d p) (nI w) tc)) ∧ M' = (K, z, kd, d, r)) := by
  obtain ⟨k0, r0, r1, r2, r3, r4, r5, k1, k2, k3, k4, k5, k6, rt, kt, hp⟩ := hs
  refine h_ofWp oX3_freeOn (by decide) (Nat.le_of_ble_eq_true rfl) ?_
  have loop : ∀ n k, k + n = tc → Wp X kX3_freeOn K z 9 [some (.inr (some p)), some (.inl (nI w)), some (.inl (sFree (d (p + 3) w) (tk d p) (nI w) k)), some (.inl (nI k))] [] (K, z, kd, d, r) (fun rv M' => rv = some (.inl (sFree (d (p + 3) w) (tk d p) (nI w) tc)) ∧ M' = (K, z, kd, d, r)) := by
    intro n
    induction n with
    | zero =>
      intro k hk
      refine wp_iload_n rfl rfl ?_
      refine wp_aload_n rfl rfl ?_
      refine st_getI rfl fX3_37 rfl (by assumption) (htc) ?_
      refine wp_icmp_ge (tgt := 48) rfl (by decide) ?_ ?_
      · intro _
        have : k = tc := by omega
        subst this
        refine wp_iload_n rfl rfl ?_
        refine wp_ireturn rfl .int rfl rfl (⟨rfl, rfl⟩)
      · intro h
        exact absurd (nI_le (by omega) (by omega)) h
    | succ n ih =>
      intro k hk
      refine wp_iload_n rfl rfl ?_
      refine wp_aload_n rfl rfl ?_
      refine st_getI rfl fX3_37 rfl (by assumption) (htc) ?_
      refine wp_icmp_ge (tgt := 48) rfl (by decide) ?_ ?_
      · intro h
        exact absurd h (nI_ge (by omega) (by omega))
      · intro _
        refine wp_aload_n rfl rfl ?_
        refine st_getR rfl fX3_21 rfl (by assumption) (by assumption) ?_
        refine wp_iload_n rfl rfl ?_
        refine st_aald (t0 := 4) rfl (by assumption) rfl rfl (by omega) (by decide) (rt _ (by omega)) ?_
        refine st_getI rfl fX3_132 rfl (kt _ (by omega)) rfl ?_
        refine wp_iload_n rfl rfl ?_
        refine wp_icmp_ne (tgt := 42) rfl (by decide) ?_ ?_
        · intro h
          refine wp_inc rfl rfl (by decide) ?_
          refine wp_goto (tgt := 9) rfl (by decide) ?_
          have e : sFree (d (p + 3) w) (tk d p) (nI w) (k + 1) = sFree (d (p + 3) w) (tk d p) (nI w) k := if_neg h
          have := ih (k + 1) (by omega)
          rw [e] at this
          exact this
        · intro h
          refine wp_iload_n rfl rfl ?_
          refine wp_aload_n rfl rfl ?_
          refine st_getR rfl fX3_21 rfl (by assumption) (by assumption) ?_
          refine wp_iload_n rfl rfl ?_
          refine st_aald (t0 := 4) rfl (by assumption) rfl rfl (by omega) (by decide) (rt _ (by omega)) ?_
          refine st_getI rfl fX3_107 rfl (kt _ (by omega)) rfl ?_
          refine wp_isub rfl ?_
          refine wp_istore_n rfl (by decide) ?_
          refine wp_inc rfl rfl (by decide) ?_
          refine wp_goto (tgt := 9) rfl (by decide) ?_
          have e : sFree (d (p + 3) w) (tk d p) (nI w) (k + 1) = sFree (d (p + 3) w) (tk d p) (nI w) k - d (p + 7 + k) 1 := if_pos h
          have := ih (k + 1) (by omega)
          rw [e] at this
          exact this
  refine wp_aload_n rfl rfl ?_
  refine st_getR rfl fX3_16 rfl (by assumption) (by assumption) ?_
  refine wp_iload_n rfl rfl ?_
  refine st_iald rfl (by assumption) rfl (hw) (by decide) rfl ?_
  refine wp_istore_n rfl (by decide) ?_
  refine wp_iconst (v := 0) rfl (by decide) ?_
  refine wp_istore_n rfl (by decide) ?_
  exact loop tc 0 (by omega)
theorem c_usedBy {u : Int32} (hs : sc kd r p) (htc : d p 7 = nI tc) (h20 : tc ≤ 20) : Cl X kX3_usedBy [.inr (some p), .inl u] (K, z, kd, d, r) (fun rv M' => rv = some (.inl (sUsed (tk d p) u tc)) ∧ M' = (K, z, kd, d, r)) := by
  obtain ⟨k0, r0, r1, r2, r3, r4, r5, k1, k2, k3, k4, k5, k6, rt, kt, hp⟩ := hs
  refine h_ofWp oX3_usedBy (by decide) (Nat.le_of_ble_eq_true rfl) ?_
  have loop : ∀ n k, k + n = tc → Wp X kX3_usedBy K z 4 [some (.inr (some p)), some (.inl u), some (.inl (sUsed (tk d p) u k)), some (.inl (nI k))] [] (K, z, kd, d, r) (fun rv M' => rv = some (.inl (sUsed (tk d p) u tc)) ∧ M' = (K, z, kd, d, r)) := by
    intro n
    induction n with
    | zero =>
      intro k hk
      refine wp_iload_n rfl rfl ?_
      refine wp_aload_n rfl rfl ?_
      refine st_getI rfl fX3_37 rfl (by assumption) (htc) ?_
      refine wp_icmp_ge (tgt := 56) rfl (by decide) ?_ ?_
      · intro _
        have : k = tc := by omega
        subst this
        refine wp_iload_n rfl rfl ?_
        refine wp_ireturn rfl .int rfl rfl (⟨rfl, rfl⟩)
      · intro h
        exact absurd (nI_le (by omega) (by omega)) h
    | succ n ih =>
      intro k hk
      have ih' := ih (k + 1) (by omega)
      refine wp_iload_n rfl rfl ?_
      refine wp_aload_n rfl rfl ?_
      refine st_getI rfl fX3_37 rfl (by assumption) (htc) ?_
      refine wp_icmp_ge (tgt := 56) rfl (by decide) ?_ ?_
      · intro h
        exact absurd h (nI_ge (by omega) (by omega))
      · intro _
        refine wp_aload_n rfl rfl ?_
        refine st_getR rfl fX3_21 rfl (by assumption) (by assumption) ?_
        refine wp_iload_n rfl rfl ?_
        refine st_aald (t0 := 4) rfl (by assumption) rfl rfl (by omega) (by decide) (rt _ (by omega)) ?_
        refine st_getI rfl fX3_104 rfl (kt _ (by omega)) rfl ?_
        refine wp_iload_n rfl rfl ?_
        refine wp_icmp_ne (tgt := 50) rfl (by decide) ?_ ?_
        · intro h22
          refine wp_inc rfl rfl (by decide) ?_
          refine wp_goto (tgt := 4) rfl (by decide) ?_
          first | (rw [show sUsed (tk d p) u (k + 1) = sUsed (tk d p) u k + d (p + 7 + k) 1 from if_pos ⟨h22, h35⟩] at ih'; exact ih') | (rw [show sUsed (tk d p) u (k + 1) = sUsed (tk d p) u k from if_neg (fun q => h35 q.2)] at ih'; exact ih') | (rw [show sUsed (tk d p) u (k + 1) = sUsed (tk d p) u k from if_neg (fun q => h22 q.1)] at ih'; exact ih')
        · intro h22
          refine wp_aload_n rfl rfl ?_
          refine st_getR rfl fX3_21 rfl (by assumption) (by assumption) ?_
          refine wp_iload_n rfl rfl ?_
          refine st_aald (t0 := 4) rfl (by assumption) rfl rfl (by omega) (by decide) (rt _ (by omega)) ?_
          refine st_getI rfl fX3_116 rfl (kt _ (by omega)) rfl ?_
          refine wp_iconst (v := 1) rfl (by decide) ?_
          refine wp_icmp_ne (tgt := 50) rfl (by decide) ?_ ?_
          · intro h35
            refine wp_inc rfl rfl (by decide) ?_
            refine wp_goto (tgt := 4) rfl (by decide) ?_
            first | (rw [show sUsed (tk d p) u (k + 1) = sUsed (tk d p) u k + d (p + 7 + k) 1 from if_pos ⟨h22, h35⟩] at ih'; exact ih') | (rw [show sUsed (tk d p) u (k + 1) = sUsed (tk d p) u k from if_neg (fun q => h35 q.2)] at ih'; exact ih') | (rw [show sUsed (tk d p) u (k + 1) = sUsed (tk d p) u k from if_neg (fun q => h22 q.1)] at ih'; exact ih')
          · intro h35
            refine wp_iload_n rfl rfl ?_
            refine wp_aload_n rfl rfl ?_
            refine st_getR rfl fX3_21 rfl (by assumption) (by assumption) ?_
            refine wp_iload_n rfl rfl ?_
            refine st_aald (t0 := 4) rfl (by assumption) rfl rfl (by omega) (by decide) (rt _ (by omega)) ?_
            refine st_getI rfl fX3_107 rfl (kt _ (by omega)) rfl ?_
            refine wp_iadd rfl ?_
            refine wp_istore_n rfl (by decide) ?_
            refine wp_inc rfl rfl (by decide) ?_
            refine wp_goto (tgt := 4) rfl (by decide) ?_
            first | (rw [show sUsed (tk d p) u (k + 1) = sUsed (tk d p) u k + d (p + 7 + k) 1 from if_pos ⟨h22, h35⟩] at ih'; exact ih') | (rw [show sUsed (tk d p) u (k + 1) = sUsed (tk d p) u k from if_neg (fun q => h35 q.2)] at ih'; exact ih') | (rw [show sUsed (tk d p) u (k + 1) = sUsed (tk d p) u k from if_neg (fun q => h22 q.1)] at ih'; exact ih')
  refine wp_iconst (v := 0) rfl (by decide) ?_
  refine wp_istore_n rfl (by decide) ?_
  refine wp_iconst (v := 0) rfl (by decide) ?_
  refine wp_istore_n rfl (by decide) ?_
  exact loop tc 0 (by omega)
theorem c_leave {a : Nat} {x : Int32} (hk : kd a = some (.inl 4)) : Cl X kX4_leave [.inr (some a), .inl x] (K, z, kd, d, r) (fun rv M' => rv = none ∧ M' = (K, z, kd, hu (hu d a 4 x) a 6 (-1), r)) := by
  refine h_ofWp oX4_leave (by decide) (Nat.le_of_ble_eq_true rfl) ?_
  refine wp_aload_n rfl rfl ?_
  refine wp_iload_n rfl rfl ?_
  refine st_putI rfl fX4_18 rfl rfl ⟨rfl, rfl⟩ (by assumption) ?_
  refine wp_aload_n rfl rfl ?_
  refine wp_iconst (v := -1) rfl (by decide) ?_
  refine st_putI rfl fX4_15 rfl rfl ⟨rfl, rfl⟩ (by assumption) ?_
  refine wp_return rfl rfl ?_
  exact ⟨rfl, rfl⟩
theorem c_beginOn {a : Nat} {x : Int32} (hk : kd a = some (.inl 4)) : Cl X kX4_beginOn [.inr (some a), .inl x] (K, z, kd, d, r) (fun rv M' => rv = none ∧ M' = (K, z, kd, hu (hu (hu d a 4 1) a 6 x) a 5 (d a 5 + 1), r)) := by
  refine h_ofWp oX4_beginOn (by decide) (Nat.le_of_ble_eq_true rfl) ?_
  refine wp_aload_n rfl rfl ?_
  refine wp_iconst (v := 1) rfl (by decide) ?_
  refine st_putI rfl fX4_18 rfl rfl ⟨rfl, rfl⟩ (by assumption) ?_
  refine wp_aload_n rfl rfl ?_
  refine wp_iload_n rfl rfl ?_
  refine st_putI rfl fX4_15 rfl rfl ⟨rfl, rfl⟩ (by assumption) ?_
  refine wp_aload_n rfl rfl ?_
  refine wp_dup rfl ?_
  refine st_getI rfl fX4_21 rfl (by assumption) ((hu_n (by omega)).trans (hu_n (by omega))) ?_
  refine wp_iconst (v := 1) rfl (by decide) ?_
  refine wp_iadd rfl ?_
  refine st_putI rfl fX4_21 rfl rfl ⟨rfl, rfl⟩ (by assumption) ?_
  refine wp_return rfl rfl ?_
  exact ⟨rfl, rfl⟩
theorem c_standing {t : Int32} (hs : sc kd r p) (htc : d p 7 = nI tc) (h20 : tc ≤ 20) : Cl X kX3_standing [.inr (some p), .inl t] (K, z, kd, d, r) (fun rv M' => M' = (K, z, kd, d, r) ∧ ((∃ j, j < tc ∧ t = nI j ∧ rv = some (.inl (1000 * d (p + 7 + j) 4 + d (p + 7 + j) 5))) ∨ ((∀ j, j < tc → t ≠ nI j) ∧ rv = some (.inl (-1))))) := by
  obtain ⟨k0, r0, r1, r2, r3, r4, r5, k1, k2, k3, k4, k5, k6, rt, kt, hp⟩ := hs
  refine h_ofWp oX3_standing (by decide) (Nat.le_of_ble_eq_true rfl) ?_
  refine wp_aload_n rfl rfl ?_
  refine wp_iload_n rfl rfl ?_
  refine wp_V1 rfl mX3_standing_101 (k0) (Nat.le_of_ble_eq_true rfl) (c_isTask k0 htc (by omega)) ?_
  rintro _ _ ⟨v, rfl, rfl, hv⟩
  rcases hv with ⟨rfl, j, -, hj, rfl⟩ | ⟨rfl, hj⟩
  · refine wp_if_eq (tgt := 34) rfl (by decide) ?_ ?_
    · intro h5
      refine wp_iconst (v := -1) rfl (by decide) ?_
      refine wp_ireturn rfl .int rfl rfl ?_
      first | exact absurd h5 (by decide) | exact ⟨rfl, Or.inl ⟨j, hj, rfl, rfl⟩⟩
    · intro h5
      refine wp_sipush (v := 1000) rfl (by decide) ?_
      refine wp_aload_n rfl rfl ?_
      refine st_getR rfl fX3_21 rfl (by assumption) (by assumption) ?_
      refine wp_iload_n rfl rfl ?_
      refine st_aald (t0 := 4) rfl (by assumption) rfl rfl (by omega) (by decide) (rt _ (by omega)) ?_
      refine st_getI rfl fX3_116 rfl (kt _ (by omega)) rfl ?_
      refine wp_imul rfl ?_
      refine wp_aload_n rfl rfl ?_
      refine st_getR rfl fX3_21 rfl (by assumption) (by assumption) ?_
      refine wp_iload_n rfl rfl ?_
      refine st_aald (t0 := 4) rfl (by assumption) rfl rfl (by omega) (by decide) (rt _ (by omega)) ?_
      refine st_getI rfl fX3_119 rfl (kt _ (by omega)) rfl ?_
      refine wp_iadd rfl ?_
      refine wp_goto (tgt := 35) rfl (by decide) ?_
      refine wp_ireturn rfl .int rfl rfl ?_
      first | exact absurd h5 (by decide) | exact ⟨rfl, Or.inl ⟨j, hj, rfl, rfl⟩⟩
  · refine wp_if_eq (tgt := 34) rfl (by decide) ?_ ?_
    · intro h5
      refine wp_iconst (v := -1) rfl (by decide) ?_
      refine wp_ireturn rfl .int rfl rfl ?_
      exact ⟨rfl, Or.inr ⟨fun j h => hj j (Nat.zero_le _) h, rfl⟩⟩
    · intro h5
      exact absurd rfl h5
end SCHED
