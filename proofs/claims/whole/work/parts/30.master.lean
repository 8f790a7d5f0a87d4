/-! THE CLASS'S MASTERS, ORDERS AND GIVEN ANSWERS -/
/-- the shape of a master at place P, its entries apart -/
def ms (kd : Nat → Option hK) (r : Nat → Nat → Option Nat) (P : Nat) : Prop :=
  kd P = some (.inl 1) ∧ r P 0 = some (P + 1) ∧ r P 1 = some (P + 2) ∧ r P 2 = some (P + 29) ∧ kd (P + 1) = some (.inr (.inr (.object RX2, 60))) ∧ kd (P + 29) = some (.inr (.inl (.int, 60))) ∧ sc kd r (P + 2) ∧ 0 < P
/-- the place of entry k -/
def op (r : Nat → Nat → Option Nat) (P k : Nat) : Nat := (r (P + 1) k).getD 0
/-- entries are orders -/
def es (kd : Nat → Option hK) (r : Nat → Nat → Option Nat) (P : Nat) : Prop := ∀ k, k < 60 → r (P + 1) k = some (op r P k) ∧ kd (op r P k) = some (.inl 2)
/-- the log of P' taken by P -/
def rT (r : Nat → Nat → Option Nat) (P P' n : Nat) : Nat → Nat → Option Nat := fun q i => if q = P + 1 ∧ i < n then r (P' + 1) i else r q i
theorem rT_0 (r : Nat → Nat → Option Nat) (P P' : Nat) : rT r P P' 0 = r := by
  funext q i
  simp [rT]
theorem rT_s (r : Nat → Nat → Option Nat) (P P' k : Nat) : rT r P P' (k + 1) = hu (rT r P P' k) (P + 1) k (r (P' + 1) k) := by
  funext q i
  simp only [rT, hu]
  by_cases h1 : q = P + 1
  · by_cases h2 : i = k
    · subst h2
      rw [if_pos ⟨h1, by omega⟩, if_pos ⟨h1, rfl⟩]
    · rw [if_neg (show ¬ (q = P + 1 ∧ i = k) from fun h => h2 h.2)]
      by_cases h3 : i < k
      · rw [if_pos ⟨h1, by omega⟩, if_pos ⟨h1, h3⟩]
      · rw [if_neg (fun h => h3 (by omega)), if_neg (fun h => h3 h.2)]
  · rw [if_neg (fun h => h1 h.1), if_neg (fun h => h1 h.1), if_neg (fun h => h1 h.1)]
theorem rT_o {r : Nat → Nat → Option Nat} {P P' n q : Nat} (h : q ≠ P + 1) (i : Nat) : rT r P P' n q i = r q i := by
  simp [rT, h]
def bI (P : Prop) [Decidable P] : Int32 := if P then 1 else 0
section MASTER
variable {X : hX} {K z : Nat} {kd : Nat → Option hK} {d : Nat → Nat → Int32} {r : Nat → Nat → Option Nat} {P P' : Nat}
theorem c_isNormal (h : kd P = some (.inl 1)) : Cl X kX1_isNormal [.inr (some P)] (K, z, kd, d, r) (fun rv M' => rv = some (.inl (bI (d P 5 = d P 4))) ∧ M' = (K, z, kd, d, r)) := by
  refine h_ofWp oX1_isNormal (by decide) (Nat.le_of_ble_eq_true rfl) ?_
  refine wp_aload_n rfl rfl ?_
  refine st_getI rfl fX1_32 rfl (by assumption) rfl ?_
  refine wp_aload_n rfl rfl ?_
  refine st_getI rfl fX1_36 rfl (by assumption) rfl ?_
  refine wp_icmp_ne (tgt := 15) rfl (by decide) ?_ ?_
  · intro h8
    refine wp_iconst (v := 0) rfl (by decide) ?_
    refine wp_ireturn rfl .boolean rfl rfl ?_
    first | (rw [bI, if_pos h8]; exact ⟨rfl, rfl⟩) | (rw [bI, if_neg h8]; exact ⟨rfl, rfl⟩)
  · intro h8
    refine wp_iconst (v := 1) rfl (by decide) ?_
    refine wp_goto (tgt := 16) rfl (by decide) ?_
    refine wp_ireturn rfl .boolean rfl rfl ?_
    first | (rw [bI, if_pos h8]; exact ⟨rfl, rfl⟩) | (rw [bI, if_neg h8]; exact ⟨rfl, rfl⟩)
theorem c_joins {x : Int32} (h : kd P = some (.inl 1)) : Cl X kX1_joins [.inr (some P), .inl x] (K, z, kd, d, r) (fun rv M' => ∃ d', M' = (K, z, kd, d', r) ∧ d' = (if d P 4 < x then hu d P 4 x else d) ∧ rv = some (.inl (bI (d' P 4 = x ∧ ¬ d' P 5 = d' P 4)))) := by
  refine h_ofWp oX1_joins (by decide) (Nat.le_of_ble_eq_true rfl) ?_
  have rest : ∀ d', d' = (if d P 4 < x then hu d P 4 x else d) → Wp X kX1_joins K z 13 [some (.inr (some P)), some (.inl x)] [] (K, z, kd, d', r) (fun rv M' => ∃ d', M' = (K, z, kd, d', r) ∧ d' = (if d P 4 < x then hu d P 4 x else d) ∧ rv = some (.inl (bI (d' P 4 = x ∧ ¬ d' P 5 = d' P 4)))) := by
    intro d' hd
    refine wp_aload_n rfl rfl ?_
    refine st_getI rfl fX1_36 rfl (by assumption) rfl ?_
    refine wp_iload_n rfl rfl ?_
    refine wp_icmp_ne (tgt := 32) rfl (by decide) ?_ ?_
    · intro h18
      refine wp_iconst (v := 0) rfl (by decide) ?_
      refine wp_ireturn rfl .boolean rfl rfl ?_
      exact ⟨d', rfl, hd, by rw [bI, if_neg (fun q => h18 q.1)]⟩
    · intro h18
      refine wp_aload_n rfl rfl ?_
      refine wp_V0 rfl mX1_joins_39 (h) (Nat.le_of_ble_eq_true rfl) (c_isNormal h) ?_
      rintro _ _ ⟨rfl, rfl⟩
      by_cases e : d' P 5 = d' P 4
      · rw [show bI (d' P 5 = d' P 4) = 1 from if_pos e]
        refine wp_if_ne (tgt := 32) rfl (by decide) ?_ ?_
        · intro h25
          refine wp_iconst (v := 0) rfl (by decide) ?_
          refine wp_ireturn rfl .boolean rfl rfl ?_
          first | exact absurd h25 (by decide) | exact ⟨d', rfl, hd, by rw [bI, if_neg (fun q => q.2 e)]⟩
        · intro h25
          refine wp_iconst (v := 1) rfl (by decide) ?_
          refine wp_goto (tgt := 33) rfl (by decide) ?_
          refine wp_ireturn rfl .boolean rfl rfl ?_
          first | exact absurd h25 (by decide) | exact ⟨d', rfl, hd, by rw [bI, if_neg (fun q => q.2 e)]⟩
      · rw [show bI (d' P 5 = d' P 4) = 0 from if_neg e]
        refine wp_if_ne (tgt := 32) rfl (by decide) ?_ ?_
        · intro h25
          refine wp_iconst (v := 0) rfl (by decide) ?_
          refine wp_ireturn rfl .boolean rfl rfl ?_
          first | exact absurd rfl h25 | exact ⟨d', rfl, hd, by rw [bI, if_pos ⟨h18, e⟩]⟩
        · intro h25
          refine wp_iconst (v := 1) rfl (by decide) ?_
          refine wp_goto (tgt := 33) rfl (by decide) ?_
          refine wp_ireturn rfl .boolean rfl rfl ?_
          first | exact absurd rfl h25 | exact ⟨d', rfl, hd, by rw [bI, if_pos ⟨h18, e⟩]⟩
  refine wp_aload_n rfl rfl ?_
  refine st_getI rfl fX1_36 rfl (by assumption) rfl ?_
  refine wp_iload_n rfl rfl ?_
  refine wp_icmp_ge (tgt := 13) rfl (by decide) ?_ ?_
  · intro h5
    first | exact rest _ (by rw [if_neg (fun q => absurd h5 (by rw [i_le]; rw [i_lt] at q; omega))]) | exact rest _ (by rw [if_pos (by rw [i_le] at h5; rw [i_lt]; omega)])
  · intro h5
    refine wp_aload_n rfl rfl ?_
    refine wp_iload_n rfl rfl ?_
    refine st_putI rfl fX1_36 rfl rfl ⟨rfl, rfl⟩ (by assumption) ?_
    first | exact rest _ (by rw [if_neg (fun q => absurd h5 (by rw [i_le]; rw [i_lt] at q; omega))]) | exact rest _ (by rw [if_pos (by rw [i_le] at h5; rw [i_lt]; omega)])
theorem c_knows (h : kd P = some (.inl 1)) (h' : kd P' = some (.inl 1)) : Cl X kX1_knowsMoreThan [.inr (some P), .inr (some P')] (K, z, kd, d, r) (fun rv M' => rv = some (.inl (bI (d P' 5 < d P 5 ∨ d P 5 = d P' 5 ∧ d P' 6 < d P 6))) ∧ M' = (K, z, kd, d, r)) := by
  refine h_ofWp oX1_knowsMoreThan (by decide) (Nat.le_of_ble_eq_true rfl) ?_
  have K1 : d P' 5 < d P 5 → bI (d P' 5 < d P 5 ∨ d P 5 = d P' 5 ∧ d P' 6 < d P 6) = 1 := fun a => if_pos (Or.inl a)
  have K2 : ¬ d P' 5 < d P 5 → ¬ d P 5 = d P' 5 → bI (d P' 5 < d P 5 ∨ d P 5 = d P' 5 ∧ d P' 6 < d P 6) = 0 := fun a b => if_neg (fun q => q.elim a (fun q => b q.1))
  have K3 : ¬ d P' 5 < d P 5 → d P 6 ≤ d P' 6 → bI (d P' 5 < d P 5 ∨ d P 5 = d P' 5 ∧ d P' 6 < d P 6) = 0 := fun a b => if_neg (fun q => q.elim a (fun q => by have := q.2; rw [i_le] at b; rw [i_lt] at this; omega))
  have K4 : d P 5 = d P' 5 → ¬ d P 6 ≤ d P' 6 → bI (d P' 5 < d P 5 ∨ d P 5 = d P' 5 ∧ d P' 6 < d P 6) = 1 := fun a b => if_pos (Or.inr ⟨a, by rw [i_le] at b; rw [i_lt]; omega⟩)
  refine wp_aload_n rfl rfl ?_
  refine st_getI rfl fX1_32 rfl (by assumption) rfl ?_
  refine wp_aload_n rfl rfl ?_
  refine st_getI rfl fX1_32 rfl (by assumption) rfl ?_
  refine wp_icmp_gt (tgt := 33) rfl (by decide) ?_ ?_
  · intro h8
    refine wp_iconst (v := 1) rfl (by decide) ?_
    refine wp_goto (tgt := 38) rfl (by decide) ?_
    refine wp_ireturn rfl .boolean rfl rfl ?_
    first | exact ⟨congrArg (fun v => some (Sum.inl v)) (K1 h8).symm, rfl⟩ | exact ⟨congrArg (fun v => some (Sum.inl v)) (K2 h8 h19).symm, rfl⟩ | exact ⟨congrArg (fun v => some (Sum.inl v)) (K3 h8 h30).symm, rfl⟩ | exact ⟨congrArg (fun v => some (Sum.inl v)) (K4 h19 h30).symm, rfl⟩
  · intro h8
    refine wp_aload_n rfl rfl ?_
    refine st_getI rfl fX1_32 rfl (by assumption) rfl ?_
    refine wp_aload_n rfl rfl ?_
    refine st_getI rfl fX1_32 rfl (by assumption) rfl ?_
    refine wp_icmp_ne (tgt := 37) rfl (by decide) ?_ ?_
    · intro h19
      refine wp_iconst (v := 0) rfl (by decide) ?_
      refine wp_ireturn rfl .boolean rfl rfl ?_
      first | exact ⟨congrArg (fun v => some (Sum.inl v)) (K1 h8).symm, rfl⟩ | exact ⟨congrArg (fun v => some (Sum.inl v)) (K2 h8 h19).symm, rfl⟩ | exact ⟨congrArg (fun v => some (Sum.inl v)) (K3 h8 h30).symm, rfl⟩ | exact ⟨congrArg (fun v => some (Sum.inl v)) (K4 h19 h30).symm, rfl⟩
    · intro h19
      refine wp_aload_n rfl rfl ?_
      refine st_getI rfl fX1_43 rfl (by assumption) rfl ?_
      refine wp_aload_n rfl rfl ?_
      refine st_getI rfl fX1_43 rfl (by assumption) rfl ?_
      refine wp_icmp_le (tgt := 37) rfl (by decide) ?_ ?_
      · intro h30
        refine wp_iconst (v := 0) rfl (by decide) ?_
        refine wp_ireturn rfl .boolean rfl rfl ?_
        first | exact ⟨congrArg (fun v => some (Sum.inl v)) (K1 h8).symm, rfl⟩ | exact ⟨congrArg (fun v => some (Sum.inl v)) (K2 h8 h19).symm, rfl⟩ | exact ⟨congrArg (fun v => some (Sum.inl v)) (K3 h8 h30).symm, rfl⟩ | exact ⟨congrArg (fun v => some (Sum.inl v)) (K4 h19 h30).symm, rfl⟩
      · intro h30
        refine wp_iconst (v := 1) rfl (by decide) ?_
        refine wp_goto (tgt := 38) rfl (by decide) ?_
        refine wp_ireturn rfl .boolean rfl rfl ?_
        first | exact ⟨congrArg (fun v => some (Sum.inl v)) (K1 h8).symm, rfl⟩ | exact ⟨congrArg (fun v => some (Sum.inl v)) (K2 h8 h19).symm, rfl⟩ | exact ⟨congrArg (fun v => some (Sum.inl v)) (K3 h8 h30).symm, rfl⟩ | exact ⟨congrArg (fun v => some (Sum.inl v)) (K4 h19 h30).symm, rfl⟩
theorem c_takeLog {n : Nat} (h : ms kd r P) (h' : ms kd r P') (he : es kd r P') (hn : d P' 6 = nI n) (h60 : n ≤ 60) : Cl X kX1_takeLog [.inr (some P), .inr (some P')] (K, z, kd, d, r) (fun rv M' => rv = none ∧ M' = (K, z, kd, hu d P 6 (nI n), rT r P P' n)) := by
  obtain ⟨k0, r0, r1, r2, k1, k29, hsc, hp⟩ := h
  obtain ⟨j0, s0, s1, s2, j1, j29, hsc', hp'⟩ := h'
  refine h_ofWp oX1_takeLog (by decide) (Nat.le_of_ble_eq_true rfl) ?_
  have loop : ∀ m k, k + m = n → Wp X kX1_takeLog K z 2 [some (.inr (some P)), some (.inr (some P')), some (.inl (nI k))] [] (K, z, kd, d, rT r P P' k) (fun rv M' => rv = none ∧ M' = (K, z, kd, hu d P 6 (nI n), rT r P P' n)) := by
    intro m
    induction m with
    | zero =>
      intro k hk
      have : k = n := by omega
      subst this
      refine wp_iload_n rfl rfl ?_
      refine wp_aload_n rfl rfl ?_
      refine st_getI rfl fX1_43 rfl (by assumption) (hn) ?_
      refine wp_icmp_ge (tgt := 28) rfl (by decide) ?_ ?_
      · intro _
        refine wp_aload_n rfl rfl ?_
        refine wp_aload_n rfl rfl ?_
        refine st_getI rfl fX1_43 rfl (by assumption) (hn) ?_
        refine st_putI rfl fX1_43 rfl rfl ⟨rfl, rfl⟩ (by assumption) ?_
        refine wp_return rfl rfl (⟨rfl, rfl⟩)
      · intro hc
        exact absurd (nI_le (Nat.le_refl _) (by omega)) hc
    | succ m ih =>
      intro k hk
      have eP : P ≠ P + 1 := by omega
      by_cases e' : P' = P + 1
      · subst e'
        rw [k1] at j0
        cases j0
      · have hr1 : rT r P P' k P' 0 = some (P' + 1) := (rT_o e' 0).trans s0
        have hr0 : rT r P P' k P 0 = some (P + 1) := (rT_o eP 0).trans r0
        have hk60 : k < 60 := by omega
        have hrd : rT r P P' k (P' + 1) k = some (op r P' k) := by
          rw [rT, if_neg (fun hc => absurd hc.2 (by omega))]
          exact (he k hk60).1
        refine wp_iload_n rfl rfl ?_
        refine wp_aload_n rfl rfl ?_
        refine st_getI rfl fX1_43 rfl (by assumption) (hn) ?_
        refine wp_icmp_ge (tgt := 28) rfl (by decide) ?_ ?_
        · intro hc
          exact absurd hc (nI_ge (by omega) (by omega))
        · intro _
          refine wp_aload_n rfl rfl ?_
          refine st_getR rfl fX1_11 rfl (by assumption) (hr0) ?_
          refine wp_iload_n rfl rfl ?_
          refine wp_aload_n rfl rfl ?_
          refine st_getR rfl fX1_11 rfl (by assumption) (hr1) ?_
          refine wp_iload_n rfl rfl ?_
          refine st_aald (t0 := 3) rfl (by assumption) rfl rfl (by omega) (by decide) (hrd) ?_
          refine st_aast (t0 := 3) (c := 2) rfl (by assumption) ((he k hk60).2) (by decide) rfl rfl (by omega) (by decide) ?_
          refine wp_inc rfl rfl (by decide) ?_
          refine wp_goto (tgt := 2) rfl (by decide) ?_
          have := ih (k + 1) (by omega)
          rw [rT_s, (he k hk60).1] at this
          exact this
  refine wp_iconst (v := 0) rfl (by decide) ?_
  refine wp_istore_n rfl (by decide) ?_
  have := loop n 0 (by omega)
  rw [rT_0] at this
  exact this
theorem c_lead {n : Nat} {x : Int32} (h : ms kd r P) (h' : ms kd r P') (he : es kd r P') (hn : d P' 6 = nI n) (h60 : n ≤ 60) : Cl X kX1_lead [.inr (some P), .inr (some P'), .inl x] (K, z, kd, d, r) (fun rv M' => rv = none ∧ M' = (K, z, kd, hu (hu (hu d P 6 (nI n)) P 7 x) P 5 (d P 4), rT r P P' n)) := by
  have k0 := h.1
  refine h_ofWp oX1_lead (by decide) (Nat.le_of_ble_eq_true rfl) ?_
  refine wp_aload_n rfl rfl ?_
  refine wp_aload_n rfl rfl ?_
  refine wp_V1 rfl mX1_lead_46 (k0) (Nat.le_of_ble_eq_true rfl) (c_takeLog h h' he hn h60) ?_
  rintro _ _ ⟨rfl, rfl⟩
  refine wp_aload_n rfl rfl ?_
  refine wp_iload_n rfl rfl ?_
  refine st_putI rfl fX1_50 rfl rfl ⟨rfl, rfl⟩ (by assumption) ?_
  refine wp_aload_n rfl rfl ?_
  refine wp_aload_n rfl rfl ?_
  refine st_getI rfl fX1_36 rfl (by assumption) ((hu_n (by omega)).trans (hu_n (by omega))) ?_
  refine st_putI rfl fX1_32 rfl rfl ⟨rfl, rfl⟩ (by assumption) ?_
  refine wp_return rfl rfl (⟨rfl, rfl⟩)
theorem c_follow {n : Nat} (h : ms kd r P) (h' : ms kd r P') (hne : P ≠ P') (he : es kd r P') (hn : d P' 6 = nI n) (h60 : n ≤ 60) : Cl X kX1_follow [.inr (some P), .inr (some P')] (K, z, kd, d, r) (fun rv M' => (¬ d P 4 ≤ d P' 4 ∧ rv = some (.inl 0) ∧ M' = (K, z, kd, d, r)) ∨ (d P 4 ≤ d P' 4 ∧ rv = some (.inl 1) ∧ M' = (K, z, kd, hu (hu (hu (hu d P 4 (d P' 4)) P 5 (d P' 4)) P 6 (nI n)) P 7 (if d P 7 < d P' 7 then d P' 7 else d P 7), rT r P P' n))) := by
  have k0 := h.1
  have j0 := h'.1
  refine h_ofWp oX1_follow (by decide) (Nat.le_of_ble_eq_true rfl) ?_
  refine wp_aload_n rfl rfl ?_
  refine st_getI rfl fX1_36 rfl (by assumption) rfl ?_
  refine wp_aload_n rfl rfl ?_
  refine st_getI rfl fX1_36 rfl (by assumption) rfl ?_
  refine wp_icmp_le (tgt := 13) rfl (by decide) ?_ ?_
  · intro h8
    refine wp_aload_n rfl rfl ?_
    refine wp_aload_n rfl rfl ?_
    refine st_getI rfl fX1_36 rfl (by assumption) (rfl) ?_
    refine st_putI rfl fX1_36 rfl rfl ⟨rfl, rfl⟩ (by assumption) ?_
    refine wp_aload_n rfl rfl ?_
    refine wp_aload_n rfl rfl ?_
    refine st_getI rfl fX1_36 rfl (by assumption) (hu_n (by omega)) ?_
    refine st_putI rfl fX1_32 rfl rfl ⟨rfl, rfl⟩ (by assumption) ?_
    refine wp_aload_n rfl rfl ?_
    refine wp_aload_n rfl rfl ?_
    refine wp_V1 rfl mX1_follow_46 (k0) (Nat.le_of_ble_eq_true rfl) (c_takeLog h h' he (by rw [row_n (by omega), row_n (by omega)]; exact hn) h60) ?_
    rintro _ _ ⟨rfl, rfl⟩
    refine wp_aload_n rfl rfl ?_
    refine wp_aload_n rfl rfl ?_
    refine st_getI rfl fX1_50 rfl (by assumption) ((by rw [hu_n (by omega), hu_n (by omega), hu_n (by omega)])) ?_
    refine wp_aload_n rfl rfl ?_
    refine st_getI rfl fX1_50 rfl (by assumption) ((by rw [row_n (by omega), row_n (by omega), row_n (by omega)])) ?_
    refine wp_S2 rfl mX1_follow_53 (Nat.le_of_ble_eq_true rfl) (c_max) ?_
    rintro _ _ ⟨rfl, rfl⟩
    refine st_putI rfl fX1_50 rfl rfl ⟨rfl, rfl⟩ (by assumption) ?_
    refine wp_iconst (v := 1) rfl (by decide) ?_
    refine wp_ireturn rfl .boolean rfl rfl ?_
    exact Or.inr ⟨h8, rfl, rfl⟩
  · intro h8
    refine wp_iconst (v := 0) rfl (by decide) ?_
    refine wp_ireturn rfl .boolean rfl rfl ?_
    exact Or.inl ⟨h8, rfl, rfl⟩
theorem c_append {n o : Nat} (h : ms kd r P) (hn : d P 6 = nI n) (h60 : n < 60) (ho : kd o = some (.inl 2)) : Cl X kX1_append [.inr (some P), .inr (some o)] (K, z, kd, d, r) (fun rv M' => rv = none ∧ M' = (K, z, kd, hu d P 6 (nI (n + 1)), hu r (P + 1) n (some o))) := by
  obtain ⟨k0, r0, r1, r2, k1, k29, hsc, hp⟩ := h
  refine h_ofWp oX1_append (by decide) (Nat.le_of_ble_eq_true rfl) ?_
  refine wp_aload_n rfl rfl ?_
  refine st_getI rfl fX1_43 rfl (by assumption) (hn) ?_
  refine wp_bipush (v := 60) rfl (by decide) ?_
  refine wp_icmp_ge (tgt := 29) rfl (by decide) ?_ ?_
  · intro hc
    exact absurd hc (nI_ge (b := 60) h60 (by omega))
  · intro _
    refine wp_aload_n rfl rfl ?_
    refine st_getR rfl fX1_11 rfl (by assumption) (by assumption) ?_
    refine wp_aload_n rfl rfl ?_
    refine st_getI rfl fX1_43 rfl (by assumption) (hn) ?_
    refine wp_aload_n rfl rfl ?_
    refine st_aast (t0 := 3) (c := 2) rfl (by assumption) (ho) (by decide) rfl rfl (by omega) (by decide) ?_
    refine wp_aload_n rfl rfl ?_
    refine wp_dup rfl ?_
    refine st_getI rfl fX1_43 rfl (by assumption) (hn) ?_
    refine wp_iconst (v := 1) rfl (by decide) ?_
    refine wp_iadd rfl ?_
    refine st_putI rfl fX1_43 rfl rfl ⟨rfl, rfl⟩ (by assumption) ?_
    refine wp_return rfl rfl ?_
    exact ⟨rfl, by rw [nI_1]⟩
/-- the greatest number of a client among the first k entries -/
def sGr (f : Nat → Nat → Int32) (x : Int32) : Nat → Int32
  | 0 => 0
  | k + 1 => if f k 0 = x then (if sGr f x k < f k 1 then f k 1 else sGr f x k) else sGr f x k
def lf (d : Nat → Nat → Int32) (r : Nat → Nat → Option Nat) (P : Nat) : Nat → Nat → Int32 := fun k j => d (op r P k) j
theorem c_greatest {n : Nat} {x : Int32} (h : ms kd r P) (he : es kd r P) (hn : d P 6 = nI n) (h60 : n ≤ 60) : Cl X kX1_greatestNumberOf [.inr (some P), .inl x] (K, z, kd, d, r) (fun rv M' => rv = some (.inl (sGr (lf d r P) x n)) ∧ M' = (K, z, kd, d, r)) := by
  obtain ⟨k0, r0, r1, r2, k1, k29, hsc, hp⟩ := h
  refine h_ofWp oX1_greatestNumberOf (by decide) (Nat.le_of_ble_eq_true rfl) ?_
  have loop : ∀ m k, k + m = n → Wp X kX1_greatestNumberOf K z 4 [some (.inr (some P)), some (.inl x), some (.inl (sGr (lf d r P) x k)), some (.inl (nI k))] [] (K, z, kd, d, r) (fun rv M' => rv = some (.inl (sGr (lf d r P) x n)) ∧ M' = (K, z, kd, d, r)) := by
    intro m
    induction m with
    | zero =>
      intro k hk
      have : k = n := by omega
      subst this
      refine wp_iload_n rfl rfl ?_
      refine wp_aload_n rfl rfl ?_
      refine st_getI rfl fX1_43 rfl (by assumption) (hn) ?_
      refine wp_icmp_ge (tgt := 45) rfl (by decide) ?_ ?_
      · intro _
        refine wp_iload_n rfl rfl ?_
        refine wp_ireturn rfl .int rfl rfl (⟨rfl, rfl⟩)
      · intro hc
        exact absurd (nI_le (Nat.le_refl _) (by omega)) hc
    | succ m ih =>
      intro k hk
      have hk60 : k < 60 := by omega
      refine wp_iload_n rfl rfl ?_
      refine wp_aload_n rfl rfl ?_
      refine st_getI rfl fX1_43 rfl (by assumption) (hn) ?_
      refine wp_icmp_ge (tgt := 45) rfl (by decide) ?_ ?_
      · intro hc
        exact absurd hc (nI_ge (by omega) (by omega))
      · intro _
        refine wp_aload_n rfl rfl ?_
        refine st_getR rfl fX1_11 rfl (by assumption) (by assumption) ?_
        refine wp_iload_n rfl rfl ?_
        refine st_aald (t0 := 3) rfl (by assumption) rfl rfl (by omega) (by decide) ((he k hk60).1) ?_
        refine st_getI rfl fX1_59 rfl ((he k hk60).2) rfl ?_
        refine wp_iload_n rfl rfl ?_
        refine wp_icmp_ne (tgt := 39) rfl (by decide) ?_ ?_
        · intro h22
          refine wp_inc rfl rfl (by decide) ?_
          refine wp_goto (tgt := 4) rfl (by decide) ?_
          have := ih (k + 1) (by omega)
          rw [show sGr (lf d r P) x (k + 1) = sGr (lf d r P) x k from if_neg h22] at this
          exact this
        · intro h22
          refine wp_iload_n rfl rfl ?_
          refine wp_aload_n rfl rfl ?_
          refine st_getR rfl fX1_11 rfl (by assumption) (by assumption) ?_
          refine wp_iload_n rfl rfl ?_
          refine st_aald (t0 := 3) rfl (by assumption) rfl rfl (by omega) (by decide) ((he k hk60).1) ?_
          refine st_getI rfl fX1_62 rfl ((he k hk60).2) rfl ?_
          refine wp_S2 rfl mX1_greatestNumberOf_53 (Nat.le_of_ble_eq_true rfl) (c_max) ?_
          rintro _ _ ⟨rfl, rfl⟩
          refine wp_istore_n rfl (by decide) ?_
          refine wp_inc rfl rfl (by decide) ?_
          refine wp_goto (tgt := 4) rfl (by decide) ?_
          have := ih (k + 1) (by omega)
          rw [show sGr (lf d r P) x (k + 1) = (if sGr (lf d r P) x k < lf d r P k 1 then lf d r P k 1 else sGr (lf d r P) x k) from if_pos h22] at this
          exact this
  refine wp_iconst (v := 0) rfl (by decide) ?_
  refine wp_istore_n rfl (by decide) ?_
  refine wp_iconst (v := 0) rfl (by decide) ?_
  refine wp_istore_n rfl (by decide) ?_
  exact loop n 0 (by omega)
theorem c_placeOf {n : Nat} {x y : Int32} (h : ms kd r P) (he : es kd r P) (hn : d P 6 = nI n) (h60 : n ≤ 60) : Cl X kX1_placeOf [.inr (some P), .inl x, .inl y] (K, z, kd, d, r) (fun rv M' => M' = (K, z, kd, d, r) ∧ ((∃ k, k < n ∧ lf d r P k 0 = x ∧ lf d r P k 1 = y ∧ (∀ i, i < k → ¬ (lf d r P i 0 = x ∧ lf d r P i 1 = y)) ∧ rv = some (.inl (nI k))) ∨ ((∀ i, i < n → ¬ (lf d r P i 0 = x ∧ lf d r P i 1 = y)) ∧ rv = some (.inl (-1))))) := by
  obtain ⟨k0, r0, r1, r2, k1, k29, hsc, hp⟩ := h
  refine h_ofWp oX1_placeOf (by decide) (Nat.le_of_ble_eq_true rfl) ?_
  generalize hQ : (fun (rv : Option hV) (M' : hM) => M' = (K, z, kd, d, r) ∧ ((∃ k, k < n ∧ lf d r P k 0 = x ∧ lf d r P k 1 = y ∧ (∀ i, i < k → ¬ (lf d r P i 0 = x ∧ lf d r P i 1 = y)) ∧ rv = some (.inl (nI k))) ∨ ((∀ i, i < n → ¬ (lf d r P i 0 = x ∧ lf d r P i 1 = y)) ∧ rv = some (.inl (-1))))) = Q
  have loop : ∀ m k, k + m = n → (∀ i, i < k → ¬ (lf d r P i 0 = x ∧ lf d r P i 1 = y)) → Wp X kX1_placeOf K z 2 [some (.inr (some P)), some (.inl x), some (.inl y), some (.inl (nI k))] [] (K, z, kd, d, r) Q := by
    intro m
    induction m with
    | zero =>
      intro k hk hno
      have : k = n := by omega
      subst this
      refine wp_iload_n rfl rfl ?_
      refine wp_aload_n rfl rfl ?_
      refine st_getI rfl fX1_43 rfl (by assumption) (hn) ?_
      refine wp_icmp_ge (tgt := 44) rfl (by decide) ?_ ?_
      · intro _
        refine wp_iconst (v := -1) rfl (by decide) ?_
        refine wp_ireturn rfl .int rfl rfl ?_
        rw [← hQ]
        exact ⟨rfl, Or.inr ⟨hno, rfl⟩⟩
      · intro hc
        exact absurd (nI_le (Nat.le_refl _) (by omega)) hc
    | succ m ih =>
      intro k hk hno
      have hk60 : k < 60 := by omega
      have next : ¬ (lf d r P k 0 = x ∧ lf d r P k 1 = y) → ∀ i, i < k + 1 → ¬ (lf d r P i 0 = x ∧ lf d r P i 1 = y) := fun h i hi => by
        by_cases e : i = k
        · subst e; exact h
        · exact hno i (by omega)
      refine wp_iload_n rfl rfl ?_
      refine wp_aload_n rfl rfl ?_
      refine st_getI rfl fX1_43 rfl (by assumption) (hn) ?_
      refine wp_icmp_ge (tgt := 44) rfl (by decide) ?_ ?_
      · intro hc
        exact absurd hc (nI_ge (by omega) (by omega))
      · intro _
        refine wp_aload_n rfl rfl ?_
        refine st_getR rfl fX1_11 rfl (by assumption) (by assumption) ?_
        refine wp_iload_n rfl rfl ?_
        refine st_aald (t0 := 3) rfl (by assumption) rfl rfl (by omega) (by decide) ((he k hk60).1) ?_
        refine st_getI rfl fX1_59 rfl ((he k hk60).2) rfl ?_
        refine wp_iload_n rfl rfl ?_
        refine wp_icmp_ne (tgt := 38) rfl (by decide) ?_ ?_
        · intro h20
          refine wp_inc rfl rfl (by decide) ?_
          refine wp_goto (tgt := 2) rfl (by decide) ?_
          first | exact ih (k + 1) (by omega) (next (fun q => h20 q.1)) | exact ih (k + 1) (by omega) (next (fun q => h33 q.2))
        · intro h20
          refine wp_aload_n rfl rfl ?_
          refine st_getR rfl fX1_11 rfl (by assumption) (by assumption) ?_
          refine wp_iload_n rfl rfl ?_
          refine st_aald (t0 := 3) rfl (by assumption) rfl rfl (by omega) (by decide) ((he k hk60).1) ?_
          refine st_getI rfl fX1_62 rfl ((he k hk60).2) rfl ?_
          refine wp_iload_n rfl rfl ?_
          refine wp_icmp_ne (tgt := 38) rfl (by decide) ?_ ?_
          · intro h33
            refine wp_inc rfl rfl (by decide) ?_
            refine wp_goto (tgt := 2) rfl (by decide) ?_
            first | exact ih (k + 1) (by omega) (next (fun q => h20 q.1)) | exact ih (k + 1) (by omega) (next (fun q => h33 q.2))
          · intro h33
            refine wp_iload_n rfl rfl ?_
            refine wp_ireturn rfl .int rfl rfl ?_
            rw [← hQ]
            exact ⟨rfl, Or.inl ⟨k, by omega, h20, h33, hno, rfl⟩⟩
  refine wp_iconst (v := 0) rfl (by decide) ?_
  refine wp_istore_n rfl (by decide) ?_
  exact loop n 0 (by omega) (fun i hi => absurd hi (by omega))
theorem c_isSameAs {a b : Nat} (ha : kd a = some (.inl 2)) (hb : kd b = some (.inl 2)) (hs : ∀ j, j < 7 → d a j = d b j) : Cl X kX2_isSameAs [.inr (some a), .inr (some b)] (K, z, kd, d, r) (fun rv M' => rv = some (.inl 1) ∧ M' = (K, z, kd, d, r)) := by
  refine h_ofWp oX2_isSameAs (by decide) (Nat.le_of_ble_eq_true rfl) ?_
  refine wp_aload_n rfl rfl ?_
  refine st_getI rfl fX2_9 rfl (by assumption) rfl ?_
  refine wp_aload_n rfl rfl ?_
  refine st_getI rfl fX2_9 rfl (by assumption) rfl ?_
  refine wp_icmp_ne (tgt := 81) rfl (by decide) ?_ ?_
  · intro h8
    refine wp_iconst (v := 0) rfl (by decide) ?_
    refine wp_ireturn rfl .boolean rfl rfl ?_
    first | exact absurd (hs 0 (by omega)) h8 | exact absurd (hs 1 (by omega)) h19 | exact absurd (hs 2 (by omega)) h30 | exact absurd (hs 3 (by omega)) h41 | exact absurd (hs 4 (by omega)) h52 | exact absurd (hs 5 (by omega)) h63 | exact absurd (hs 6 (by omega)) h74 | exact ⟨rfl, rfl⟩
  · intro h8
    refine wp_aload_n rfl rfl ?_
    refine st_getI rfl fX2_15 rfl (by assumption) rfl ?_
    refine wp_aload_n rfl rfl ?_
    refine st_getI rfl fX2_15 rfl (by assumption) rfl ?_
    refine wp_icmp_ne (tgt := 81) rfl (by decide) ?_ ?_
    · intro h19
      refine wp_iconst (v := 0) rfl (by decide) ?_
      refine wp_ireturn rfl .boolean rfl rfl ?_
      first | exact absurd (hs 0 (by omega)) h8 | exact absurd (hs 1 (by omega)) h19 | exact absurd (hs 2 (by omega)) h30 | exact absurd (hs 3 (by omega)) h41 | exact absurd (hs 4 (by omega)) h52 | exact absurd (hs 5 (by omega)) h63 | exact absurd (hs 6 (by omega)) h74 | exact ⟨rfl, rfl⟩
    · intro h19
      refine wp_aload_n rfl rfl ?_
      refine st_getI rfl fX2_18 rfl (by assumption) rfl ?_
      refine wp_aload_n rfl rfl ?_
      refine st_getI rfl fX2_18 rfl (by assumption) rfl ?_
      refine wp_icmp_ne (tgt := 81) rfl (by decide) ?_ ?_
      · intro h30
        refine wp_iconst (v := 0) rfl (by decide) ?_
        refine wp_ireturn rfl .boolean rfl rfl ?_
        first | exact absurd (hs 0 (by omega)) h8 | exact absurd (hs 1 (by omega)) h19 | exact absurd (hs 2 (by omega)) h30 | exact absurd (hs 3 (by omega)) h41 | exact absurd (hs 4 (by omega)) h52 | exact absurd (hs 5 (by omega)) h63 | exact absurd (hs 6 (by omega)) h74 | exact ⟨rfl, rfl⟩
      · intro h30
        refine wp_aload_n rfl rfl ?_
        refine st_getI rfl fX2_21 rfl (by assumption) rfl ?_
        refine wp_aload_n rfl rfl ?_
        refine st_getI rfl fX2_21 rfl (by assumption) rfl ?_
        refine wp_icmp_ne (tgt := 81) rfl (by decide) ?_ ?_
        · intro h41
          refine wp_iconst (v := 0) rfl (by decide) ?_
          refine wp_ireturn rfl .boolean rfl rfl ?_
          first | exact absurd (hs 0 (by omega)) h8 | exact absurd (hs 1 (by omega)) h19 | exact absurd (hs 2 (by omega)) h30 | exact absurd (hs 3 (by omega)) h41 | exact absurd (hs 4 (by omega)) h52 | exact absurd (hs 5 (by omega)) h63 | exact absurd (hs 6 (by omega)) h74 | exact ⟨rfl, rfl⟩
        · intro h41
          refine wp_aload_n rfl rfl ?_
          refine st_getI rfl fX2_24 rfl (by assumption) rfl ?_
          refine wp_aload_n rfl rfl ?_
          refine st_getI rfl fX2_24 rfl (by assumption) rfl ?_
          refine wp_icmp_ne (tgt := 81) rfl (by decide) ?_ ?_
          · intro h52
            refine wp_iconst (v := 0) rfl (by decide) ?_
            refine wp_ireturn rfl .boolean rfl rfl ?_
            first | exact absurd (hs 0 (by omega)) h8 | exact absurd (hs 1 (by omega)) h19 | exact absurd (hs 2 (by omega)) h30 | exact absurd (hs 3 (by omega)) h41 | exact absurd (hs 4 (by omega)) h52 | exact absurd (hs 5 (by omega)) h63 | exact absurd (hs 6 (by omega)) h74 | exact ⟨rfl, rfl⟩
          · intro h52
            refine wp_aload_n rfl rfl ?_
            refine st_getI rfl fX2_27 rfl (by assumption) rfl ?_
            refine wp_aload_n rfl rfl ?_
            refine st_getI rfl fX2_27 rfl (by assumption) rfl ?_
            refine wp_icmp_ne (tgt := 81) rfl (by decide) ?_ ?_
            · intro h63
              refine wp_iconst (v := 0) rfl (by decide) ?_
              refine wp_ireturn rfl .boolean rfl rfl ?_
              first | exact absurd (hs 0 (by omega)) h8 | exact absurd (hs 1 (by omega)) h19 | exact absurd (hs 2 (by omega)) h30 | exact absurd (hs 3 (by omega)) h41 | exact absurd (hs 4 (by omega)) h52 | exact absurd (hs 5 (by omega)) h63 | exact absurd (hs 6 (by omega)) h74 | exact ⟨rfl, rfl⟩
            · intro h63
              refine wp_aload_n rfl rfl ?_
              refine st_getI rfl fX2_30 rfl (by assumption) rfl ?_
              refine wp_aload_n rfl rfl ?_
              refine st_getI rfl fX2_30 rfl (by assumption) rfl ?_
              refine wp_icmp_ne (tgt := 81) rfl (by decide) ?_ ?_
              · intro h74
                refine wp_iconst (v := 0) rfl (by decide) ?_
                refine wp_ireturn rfl .boolean rfl rfl ?_
                first | exact absurd (hs 0 (by omega)) h8 | exact absurd (hs 1 (by omega)) h19 | exact absurd (hs 2 (by omega)) h30 | exact absurd (hs 3 (by omega)) h41 | exact absurd (hs 4 (by omega)) h52 | exact absurd (hs 5 (by omega)) h63 | exact absurd (hs 6 (by omega)) h74 | exact ⟨rfl, rfl⟩
              · intro h74
                refine wp_iconst (v := 1) rfl (by decide) ?_
                refine wp_goto (tgt := 82) rfl (by decide) ?_
                refine wp_ireturn rfl .boolean rfl rfl ?_
                first | exact absurd (hs 0 (by omega)) h8 | exact absurd (hs 1 (by omega)) h19 | exact absurd (hs 2 (by omega)) h30 | exact absurd (hs 3 (by omega)) h41 | exact absurd (hs 4 (by omega)) h52 | exact absurd (hs 5 (by omega)) h63 | exact absurd (hs 6 (by omega)) h74 | exact ⟨rfl, rfl⟩
theorem c_hasSame {n n' m m' : Nat} (h : ms kd r P) (h' : ms kd r P') (he : es kd r P) (he' : es kd r P') (hn : d P 6 = nI n) (hn' : d P' 6 = nI n') (hm : d P 7 = nI m) (hm' : d P' 7 = nI m') (h60 : n ≤ 60) (h60' : n' ≤ 60) (hmn : m ≤ n) (hmn' : m' ≤ n') (hs : ∀ k, k < m → k < m' → ∀ j, j < 7 → lf d r P k j = lf d r P' k j) : Cl X kX1_hasSameDoneAs [.inr (some P), .inr (some P')] (K, z, kd, d, r) (fun rv M' => rv = some (.inl 1) ∧ M' = (K, z, kd, d, r)) := by
  obtain ⟨k0, r0, r1, r2, k1, k29, hsc, hp⟩ := h
  obtain ⟨j0, s0, s1, s2, j1, j29, hsc', hp'⟩ := h'
  refine h_ofWp oX1_hasSameDoneAs (by decide) (Nat.le_of_ble_eq_true rfl) ?_
  refine wp_aload_n rfl rfl ?_
  refine st_getI rfl fX1_50 rfl (by assumption) (hm) ?_
  refine wp_aload_n rfl rfl ?_
  refine st_getI rfl fX1_50 rfl (by assumption) (hm') ?_
  refine wp_S2 rfl mX1_hasSameDoneAs_65 (Nat.le_of_ble_eq_true rfl) (c_min) ?_
  rintro _ _ ⟨rfl, rfl⟩
  obtain ⟨b, hb, hb1, hb2⟩ : ∃ b, (if nI m' < nI m then nI m' else nI m) = nI b ∧ b ≤ m ∧ b ≤ m' := by
    by_cases hc : m' < m
    · rw [if_pos ((nI_ltI (by omega) (by omega)).mpr hc)]
      exact ⟨m', rfl, by omega, by omega⟩
    · rw [if_neg (fun q => hc ((nI_ltI (by omega) (by omega)).mp q))]
      exact ⟨m, rfl, by omega, by omega⟩
  rw [hb]
  have loop : ∀ l k, k + l = b → Wp X kX1_hasSameDoneAs K z 32 [some (.inr (some P)), some (.inr (some P')), some (.inl (nI b)), some (.inl (nI k))] [] (K, z, kd, d, r) (fun rv M' => rv = some (.inl 1) ∧ M' = (K, z, kd, d, r)) := by
    intro l
    induction l with
    | zero =>
      intro k hk
      have : k = b := by omega
      subst this
      refine wp_iload_n rfl rfl ?_
      refine wp_iload_n rfl rfl ?_
      refine wp_icmp_ge (tgt := 63) rfl (by decide) ?_ ?_
      · intro _
        refine wp_iconst (v := 1) rfl (by decide) ?_
        refine wp_ireturn rfl .boolean rfl rfl (⟨rfl, rfl⟩)
      · intro hc
        exact absurd (nI_le (Nat.le_refl _) (by omega)) hc
    | succ l ih =>
      intro k hk
      have hk60 : k < 60 := by omega
      refine wp_iload_n rfl rfl ?_
      refine wp_iload_n rfl rfl ?_
      refine wp_icmp_ge (tgt := 63) rfl (by decide) ?_ ?_
      · intro hc
        exact absurd hc (nI_ge (by omega) (by omega))
      · intro _
        refine wp_aload_n rfl rfl ?_
        refine st_getR rfl fX1_11 rfl (by assumption) (by assumption) ?_
        refine wp_iload_n rfl rfl ?_
        refine st_aald (t0 := 3) rfl (by assumption) rfl rfl (by omega) (by decide) ((he k hk60).1) ?_
        refine wp_aload_n rfl rfl ?_
        refine st_getR rfl fX1_11 rfl (by assumption) (by assumption) ?_
        refine wp_iload_n rfl rfl ?_
        refine st_aald (t0 := 3) rfl (by assumption) rfl rfl (by omega) (by decide) ((he' k hk60).1) ?_
        refine wp_V1 rfl mX1_hasSameDoneAs_68 ((he k hk60).2) (Nat.le_of_ble_eq_true rfl) (c_isSameAs (he k hk60).2 (he' k hk60).2 (hs k (by omega) (by omega))) ?_
        rintro _ _ ⟨rfl, rfl⟩
        refine wp_if_ne (tgt := 57) rfl (by decide) ?_ ?_
        · intro _
          refine wp_inc rfl rfl (by decide) ?_
          refine wp_goto (tgt := 32) rfl (by decide) ?_
          exact ih (k + 1) (by omega)
        · intro hc
          exact absurd hc (by decide)
  refine wp_istore_n rfl (by decide) ?_
  refine wp_iload_n rfl rfl ?_
  refine wp_aload_n rfl rfl ?_
  refine st_getI rfl fX1_43 rfl (by assumption) (hn) ?_
  refine wp_icmp_gt (tgt := 28) rfl (by decide) ?_ ?_
  · intro hc
    exact absurd ((nI_ltI (by omega) (by omega)).mp hc) (by omega)
  · intro _
    refine wp_iload_n rfl rfl ?_
    refine wp_aload_n rfl rfl ?_
    refine st_getI rfl fX1_43 rfl (by assumption) (hn') ?_
    refine wp_icmp_le (tgt := 30) rfl (by decide) ?_ ?_
    · intro _
      refine wp_iconst (v := 0) rfl (by decide) ?_
      refine wp_istore_n rfl (by decide) ?_
      exact loop b 0 (by omega)
    · intro hc
      exact absurd (nI_le (by omega) (by omega)) hc
theorem c_add {G k : Nat} {x : Int32} {n : Nat} (kG : kd G = some (.inl 0)) (rG0 : r G 0 = some (G + 1)) (rG1 : r G 1 = some (G + 2)) (k1 : kd (G + 1) = some (.inr (.inl (.boolean, 60)))) (k2 : kd (G + 2) = some (.inr (.inl (.int, 60)))) (hG : 0 < G) (hk : k < 60) (hc : d G 2 = nI n) (hno : d (G + 1) k = 0 ∨ d (G + 2) k = x) : Cl X kX0_add [.inr (some G), .inl (nI k), .inl x] (K, z, kd, d, r) (fun rv M' => rv = none ∧ M' = (K, z, kd, hu (hu (hu d (G + 1) k 1) (G + 2) k x) G 2 (nI (n + 1)), r)) := by
  refine h_ofWp oX0_add (by decide) (Nat.le_of_ble_eq_true rfl) ?_
  have rest : Wp X kX0_add K z 24 [some (.inr (some G)), some (.inl (nI k)), some (.inl x)] [] (K, z, kd, d, r) (fun rv M' => rv = none ∧ M' = (K, z, kd, hu (hu (hu d (G + 1) k 1) (G + 2) k x) G 2 (nI (n + 1)), r)) := by
    refine wp_aload_n rfl rfl ?_
    refine st_getR rfl fX0_9 rfl (by assumption) (by assumption) ?_
    refine wp_iload_n rfl rfl ?_
    refine wp_iconst (v := 1) rfl (by decide) ?_
    refine st_zast rfl (by assumption) rfl (hk) (by decide) rfl ?_
    refine wp_aload_n rfl rfl ?_
    refine st_getR rfl fX0_15 rfl (by assumption) (by assumption) ?_
    refine wp_iload_n rfl rfl ?_
    refine wp_iload_n rfl rfl ?_
    refine st_iast rfl (by assumption) (by omega) rfl (hk) (by decide) ?_
    refine wp_aload_n rfl rfl ?_
    refine wp_dup rfl ?_
    refine st_getI rfl fX0_23 rfl (by assumption) (((hu_n (by omega)).trans ((hu_n (by omega)).trans hc))) ?_
    refine wp_iconst (v := 1) rfl (by decide) ?_
    refine wp_iadd rfl ?_
    refine st_putI rfl fX0_23 rfl rfl ⟨rfl, rfl⟩ (by assumption) ?_
    refine wp_return rfl rfl ?_
    exact ⟨rfl, by rw [nI_1]⟩
  refine wp_aload_n rfl rfl ?_
  refine st_getR rfl fX0_9 rfl (by assumption) (by assumption) ?_
  refine wp_iload_n rfl rfl ?_
  refine st_zald rfl (by assumption) rfl (hk) (by decide) rfl ?_
  refine wp_if_eq (tgt := 24) rfl (by decide) ?_ ?_
  · intro h6
    exact rest
  · intro h6
    refine wp_aload_n rfl rfl ?_
    refine st_getR rfl fX0_15 rfl (by assumption) (by assumption) ?_
    refine wp_iload_n rfl rfl ?_
    refine st_iald rfl (by assumption) rfl (hk) (by decide) rfl ?_
    refine wp_iload_n rfl rfl ?_
    refine wp_icmp_eq (tgt := 24) rfl (by decide) ?_ ?_
    · intro h16
      exact rest
    · intro h16
      exact absurd (hno.elim (fun q => absurd q h6) id) h16
theorem c_standBy {G n : Nat} (kG : kd G = some (.inl 0)) (rG0 : r G 0 = some (G + 1)) (rG1 : r G 1 = some (G + 2)) (k1 : kd (G + 1) = some (.inr (.inl (.boolean, 60)))) (k2 : kd (G + 2) = some (.inr (.inl (.int, 60)))) (h : ms kd r P) (hc : d G 3 = 0) (hn : d P 3 = nI n) (h60 : n ≤ 60) (hall : ∀ k, k < 60 → ¬ d (G + 1) k = 0 → k < n ∧ d (G + 2) k = d (P + 29) k) : Cl X kX0_standBy [.inr (some G), .inr (some P)] (K, z, kd, d, r) (fun rv M' => rv = some (.inl 1) ∧ M' = (K, z, kd, d, r)) := by
  obtain ⟨j0, r0, r1, r2, j1, k29, hsc, hp⟩ := h
  refine h_ofWp oX0_standBy (by decide) (Nat.le_of_ble_eq_true rfl) ?_
  have loop : ∀ m k, k + m = 60 → Wp X kX0_standBy K z 11 [some (.inr (some G)), some (.inr (some P)), some (.inl (nI k))] [] (K, z, kd, d, r) (fun rv M' => rv = some (.inl 1) ∧ M' = (K, z, kd, d, r)) := by
    intro m
    induction m with
    | zero =>
      intro k hk
      have : k = 60 := by omega
      subst this
      refine wp_iload_n rfl rfl ?_
      refine wp_bipush (v := 60) rfl (by decide) ?_
      refine wp_icmp_ge (tgt := 57) rfl (by decide) ?_ ?_
      · intro _
        refine wp_iconst (v := 1) rfl (by decide) ?_
        refine wp_ireturn rfl .boolean rfl rfl (⟨rfl, rfl⟩)
      · intro hc
        exact absurd (show (60 : Int32) ≤ nI 60 by decide) hc
    | succ m ih =>
      intro k hk
      refine wp_iload_n rfl rfl ?_
      refine wp_bipush (v := 60) rfl (by decide) ?_
      refine wp_icmp_ge (tgt := 57) rfl (by decide) ?_ ?_
      · intro hc
        exact absurd hc (nI_ge (a := k) (b := 60) (by omega) (by omega))
      · intro _
        refine wp_aload_n rfl rfl ?_
        refine st_getR rfl fX0_9 rfl (by assumption) (by assumption) ?_
        refine wp_iload_n rfl rfl ?_
        refine st_zald rfl (by assumption) rfl ((by omega : k < 60)) (by decide) rfl ?_
        refine wp_if_eq (tgt := 51) rfl (by decide) ?_ ?_
        · intro h23
          refine wp_inc rfl rfl (by decide) ?_
          refine wp_goto (tgt := 11) rfl (by decide) ?_
          exact ih (k + 1) (by omega)
        · intro h23
          refine wp_iload_n rfl rfl ?_
          refine wp_aload_n rfl rfl ?_
          refine st_getI rfl fX0_27 rfl (by assumption) (hn) ?_
          refine wp_icmp_ge (tgt := 49) rfl (by decide) ?_ ?_
          · intro h31
            refine wp_iconst (v := 0) rfl (by decide) ?_
            refine wp_ireturn rfl .boolean rfl rfl ?_
            first | exact absurd h31 (nI_ge (hall k (by omega) h23).1 (by omega)) | exact absurd (hall k (by omega) h23).2 h46
          · intro h31
            refine wp_aload_n rfl rfl ?_
            refine st_getR rfl fX0_15 rfl (by assumption) (by assumption) ?_
            refine wp_iload_n rfl rfl ?_
            refine st_iald rfl (by assumption) rfl ((by omega : k < 60)) (by decide) rfl ?_
            refine wp_aload_n rfl rfl ?_
            refine st_getR rfl fX0_32 rfl (by assumption) (by assumption) ?_
            refine wp_iload_n rfl rfl ?_
            refine st_iald rfl (by assumption) rfl ((by omega : k < 60)) (by decide) rfl ?_
            refine wp_icmp_eq (tgt := 51) rfl (by decide) ?_ ?_
            · intro h46
              refine wp_inc rfl rfl (by decide) ?_
              refine wp_goto (tgt := 11) rfl (by decide) ?_
              exact ih (k + 1) (by omega)
            · intro h46
              refine wp_iconst (v := 0) rfl (by decide) ?_
              refine wp_ireturn rfl .boolean rfl rfl ?_
              first | exact absurd h31 (nI_ge (hall k (by omega) h23).1 (by omega)) | exact absurd (hall k (by omega) h23).2 h46
  refine wp_aload_n rfl rfl ?_
  refine st_getI rfl fX0_19 rfl (by assumption) (hc) ?_
  refine wp_if_eq (tgt := 9) rfl (by decide) ?_ ?_
  · intro h4
    refine wp_iconst (v := 0) rfl (by decide) ?_
    refine wp_istore_n rfl (by decide) ?_
    exact loop 60 0 rfl
  · intro h4
    refine wp_iconst (v := 0) rfl (by decide) ?_
    refine wp_ireturn rfl .boolean rfl rfl ?_
    exact absurd rfl h4
end MASTER
