/-! SMALL METHODS: ranges, Math -/
/-- v is 1 if x is one of lo .. n - 1, else 0 -/
def h_rg (x : Int32) (lo n : Nat) (v : Int32) : Prop := (v = 1 ∧ ∃ j, lo ≤ j ∧ j < n ∧ x = nI j) ∨ (v = 0 ∧ ∀ j, lo ≤ j → j < n → x ≠ nI j)
theorem rg_lo {x : Int32} {n : Nat} (hn : n < 2147483648) (h : x < 0) : h_rg x 0 n 0 := Or.inr ⟨rfl, fun j _ hj e => nI_pos (n := j) (by omega) (e ▸ h)⟩
theorem rg_hi {x : Int32} {lo n : Nat} (hn : n < 2147483648) (h : nI n ≤ x) : h_rg x lo n 0 := Or.inr ⟨rfl, fun j _ hj e => nI_ge hj (by omega) (e ▸ h)⟩
theorem rg_in {x : Int32} {n : Nat} (hn : n < 2147483648) (h1 : ¬ x < 0) (h2 : ¬ nI n ≤ x) : h_rg x 0 n 1 := by
  rcases pk_ix x (n := n) (by omega) with h | h | ⟨j, hj, rfl⟩
  · exact absurd h h1
  · exact absurd h h2
  · exact Or.inl ⟨rfl, j, Nat.zero_le _, hj, rfl⟩
theorem i_le {a b : Int32} : a ≤ b ↔ a.toInt ≤ b.toInt := Int32.le_iff_toInt_le
theorem i_lt {a b : Int32} : a < b ↔ a.toInt < b.toInt := Int32.lt_iff_toInt_lt
theorem i_eq {a b : Int32} : a = b ↔ a.toInt = b.toInt := ⟨fun h => by rw [h], fun h => Int32.toInt_inj.mp h⟩
theorem i_nI {n : Nat} (h : n < 2147483648) : (nI n).toInt = n := nI_toInt (by omega)
theorem rg_hi' {x : Int32} {lo n : Nat} (hn : n + 1 < 2147483648) (h : nI n < x) : h_rg x lo (n + 1) 0 := Or.inr ⟨rfl, fun j _ hj e => by
  subst e
  rw [i_lt, i_nI (by omega), i_nI (by omega)] at h
  omega⟩
theorem rg_in' {x : Int32} {n : Nat} (hn : n + 1 < 2147483648) (h1 : ¬ x < 0) (h2 : ¬ nI n < x) : h_rg x 0 (n + 1) 1 := by
  obtain ⟨j, hj, rfl⟩ := nI_of h1
  rw [i_lt, i_nI (by omega), i_nI (by omega)] at h2
  exact Or.inl ⟨rfl, j, Nat.zero_le _, by omega, rfl⟩
theorem rg_lo1 {x : Int32} {n : Nat} (hn : n < 2147483648) (h : x < 1) : h_rg x 1 n 0 := Or.inr ⟨rfl, fun j h1 hj e => by
  subst e
  rw [i_lt, i_nI (by omega)] at h
  have : (1 : Int32).toInt = 1 := by decide
  omega⟩
theorem rg_in1 {x : Int32} {n : Nat} (hn : n + 1 < 2147483648) (h1 : ¬ x < 1) (h2 : ¬ nI n < x) : h_rg x 1 (n + 1) 1 := by
  have e1 : (1 : Int32).toInt = 1 := by decide
  have h0 : ¬ x < 0 := by
    rw [i_lt] at h1 ⊢
    have : (0 : Int32).toInt = 0 := by decide
    omega
  obtain ⟨j, hj, rfl⟩ := nI_of h0
  rw [i_lt, i_nI (by omega), i_nI (by omega)] at h2
  rw [i_lt, i_nI (by omega)] at h1
  exact Or.inl ⟨rfl, j, by omega, by omega, rfl⟩
theorem rg_lt {x : Int32} {n : Nat} (hn : n < 2147483648) (h : x < nI n) : ¬ nI n ≤ x := by
  rw [i_lt] at h
  rw [i_le]
  omega
theorem rg_nlt {x : Int32} {n : Nat} (hn : n < 2147483648) (h : ¬ x < nI n) : nI n ≤ x := by
  rw [i_lt] at h
  rw [i_le]
  omega
section SMALL
variable {X : hX} {K z : Nat} {kd : Nat → Option hK} {d : Nat → Nat → Int32} {r : Nat → Nat → Option Nat} {p n : Nat} {x : Int32}
theorem c_isUser : Cl X kX3_isUser [.inr (some p), .inl x] (K, z, kd, d, r) (fun rv M' => ∃ v, rv = some (.inl v) ∧ M' = (K, z, kd, d, r) ∧ h_rg x 0 4 v) := by
  refine h_ofWp oX3_isUser (by decide) (Nat.le_of_ble_eq_true rfl) ?_
  refine wp_iload_n rfl rfl ?_
  refine wp_if_lt (tgt := 13) rfl (by decide) ?_ ?_
  · intro h1
    refine wp_iconst (v := 0) rfl (by decide) ?_
    refine wp_ireturn rfl .boolean rfl rfl ?_
    refine ⟨_, rfl, rfl, ?_⟩
    first | exact rg_in (n := 4) (by omega) h1 h6 | exact rg_hi (n := 4) (by omega) h6 | exact rg_lo (by omega) h1
  · intro h1
    refine wp_iload_n rfl rfl ?_
    refine wp_iconst (v := 4) rfl (by decide) ?_
    refine wp_icmp_ge (tgt := 13) rfl (by decide) ?_ ?_
    · intro h6
      refine wp_iconst (v := 0) rfl (by decide) ?_
      refine wp_ireturn rfl .boolean rfl rfl ?_
      refine ⟨_, rfl, rfl, ?_⟩
      first | exact rg_in (n := 4) (by omega) h1 h6 | exact rg_hi (n := 4) (by omega) h6 | exact rg_lo (by omega) h1
    · intro h6
      refine wp_iconst (v := 1) rfl (by decide) ?_
      refine wp_goto (tgt := 14) rfl (by decide) ?_
      refine wp_ireturn rfl .boolean rfl rfl ?_
      refine ⟨_, rfl, rfl, ?_⟩
      first | exact rg_in (n := 4) (by omega) h1 h6 | exact rg_hi (n := 4) (by omega) h6 | exact rg_lo (by omega) h1
theorem c_isWorker (hk : kd p = some (.inl 3)) (hv : d p 6 = nI n) (hn : n < 2147483648) : Cl X kX3_isWorker [.inr (some p), .inl x] (K, z, kd, d, r) (fun rv M' => ∃ v, rv = some (.inl v) ∧ M' = (K, z, kd, d, r) ∧ h_rg x 0 n v) := by
  refine h_ofWp oX3_isWorker (by decide) (Nat.le_of_ble_eq_true rfl) ?_
  refine wp_iload_n rfl rfl ?_
  refine wp_if_lt (tgt := 16) rfl (by decide) ?_ ?_
  · intro h1
    refine wp_iconst (v := 0) rfl (by decide) ?_
    refine wp_ireturn rfl .boolean rfl rfl ?_
    refine ⟨_, rfl, rfl, ?_⟩
    first | exact rg_in hn h1 h9 | exact rg_hi hn h9 | exact rg_lo hn h1
  · intro h1
    refine wp_iload_n rfl rfl ?_
    refine wp_aload_n rfl rfl ?_
    refine st_getI rfl fX3_33 rfl (by assumption) (hv) ?_
    refine wp_icmp_ge (tgt := 16) rfl (by decide) ?_ ?_
    · intro h9
      refine wp_iconst (v := 0) rfl (by decide) ?_
      refine wp_ireturn rfl .boolean rfl rfl ?_
      refine ⟨_, rfl, rfl, ?_⟩
      first | exact rg_in hn h1 h9 | exact rg_hi hn h9 | exact rg_lo hn h1
    · intro h9
      refine wp_iconst (v := 1) rfl (by decide) ?_
      refine wp_goto (tgt := 17) rfl (by decide) ?_
      refine wp_ireturn rfl .boolean rfl rfl ?_
      refine ⟨_, rfl, rfl, ?_⟩
      first | exact rg_in hn h1 h9 | exact rg_hi hn h9 | exact rg_lo hn h1
theorem c_isTask (hk : kd p = some (.inl 3)) (hv : d p 7 = nI n) (hn : n < 2147483648) : Cl X kX3_isTask [.inr (some p), .inl x] (K, z, kd, d, r) (fun rv M' => ∃ v, rv = some (.inl v) ∧ M' = (K, z, kd, d, r) ∧ h_rg x 0 n v) := by
  refine h_ofWp oX3_isTask (by decide) (Nat.le_of_ble_eq_true rfl) ?_
  refine wp_iload_n rfl rfl ?_
  refine wp_if_lt (tgt := 16) rfl (by decide) ?_ ?_
  · intro h1
    refine wp_iconst (v := 0) rfl (by decide) ?_
    refine wp_ireturn rfl .boolean rfl rfl ?_
    refine ⟨_, rfl, rfl, ?_⟩
    first | exact rg_in hn h1 h9 | exact rg_hi hn h9 | exact rg_lo hn h1
  · intro h1
    refine wp_iload_n rfl rfl ?_
    refine wp_aload_n rfl rfl ?_
    refine st_getI rfl fX3_37 rfl (by assumption) (hv) ?_
    refine wp_icmp_ge (tgt := 16) rfl (by decide) ?_ ?_
    · intro h9
      refine wp_iconst (v := 0) rfl (by decide) ?_
      refine wp_ireturn rfl .boolean rfl rfl ?_
      refine ⟨_, rfl, rfl, ?_⟩
      first | exact rg_in hn h1 h9 | exact rg_hi hn h9 | exact rg_lo hn h1
    · intro h9
      refine wp_iconst (v := 1) rfl (by decide) ?_
      refine wp_goto (tgt := 17) rfl (by decide) ?_
      refine wp_ireturn rfl .boolean rfl rfl ?_
      refine ⟨_, rfl, rfl, ?_⟩
      first | exact rg_in hn h1 h9 | exact rg_hi hn h9 | exact rg_lo hn h1
theorem c_isSize : Cl X kX3_isSize [.inr (some p), .inl x] (K, z, kd, d, r) (fun rv M' => ∃ v, rv = some (.inl v) ∧ M' = (K, z, kd, d, r) ∧ h_rg x 1 21 v) := by
  refine h_ofWp oX3_isSize (by decide) (Nat.le_of_ble_eq_true rfl) ?_
  refine wp_iload_n rfl rfl ?_
  refine wp_iconst (v := 1) rfl (by decide) ?_
  refine wp_icmp_lt (tgt := 15) rfl (by decide) ?_ ?_
  · intro h2
    refine wp_iconst (v := 0) rfl (by decide) ?_
    refine wp_ireturn rfl .boolean rfl rfl ?_
    refine ⟨_, rfl, rfl, ?_⟩
    first | exact rg_in1 (n := 20) (by omega) h2 h8 | exact rg_hi' (n := 20) (by omega) h8 | exact rg_lo1 (by omega) h2
  · intro h2
    refine wp_iload_n rfl rfl ?_
    refine wp_bipush (v := 20) rfl (by decide) ?_
    refine wp_icmp_gt (tgt := 15) rfl (by decide) ?_ ?_
    · intro h8
      refine wp_iconst (v := 0) rfl (by decide) ?_
      refine wp_ireturn rfl .boolean rfl rfl ?_
      refine ⟨_, rfl, rfl, ?_⟩
      first | exact rg_in1 (n := 20) (by omega) h2 h8 | exact rg_hi' (n := 20) (by omega) h8 | exact rg_lo1 (by omega) h2
    · intro h8
      refine wp_iconst (v := 1) rfl (by decide) ?_
      refine wp_goto (tgt := 16) rfl (by decide) ?_
      refine wp_ireturn rfl .boolean rfl rfl ?_
      refine ⟨_, rfl, rfl, ?_⟩
      first | exact rg_in1 (n := 20) (by omega) h2 h8 | exact rg_hi' (n := 20) (by omega) h8 | exact rg_lo1 (by omega) h2
theorem c_isMaster (hk : kd p = some (.inl 5)) (hv : d p 0 = nI n) (hn : n < 2147483648) : Cl X kX5_isMaster [.inr (some p), .inl x] (K, z, kd, d, r) (fun rv M' => ∃ v, rv = some (.inl v) ∧ M' = (K, z, kd, d, r) ∧ h_rg x 0 n v) := by
  refine h_ofWp oX5_isMaster (by decide) (Nat.le_of_ble_eq_true rfl) ?_
  refine wp_iload_n rfl rfl ?_
  refine wp_if_lt (tgt := 16) rfl (by decide) ?_ ?_
  · intro h1
    refine wp_iconst (v := 0) rfl (by decide) ?_
    refine wp_ireturn rfl .boolean rfl rfl ?_
    refine ⟨_, rfl, rfl, ?_⟩
    first | exact rg_in hn h1 h9 | exact rg_hi hn h9 | exact rg_lo hn h1
  · intro h1
    refine wp_iload_n rfl rfl ?_
    refine wp_aload_n rfl rfl ?_
    refine st_getI rfl fX5_7 rfl (by assumption) (hv) ?_
    refine wp_icmp_ge (tgt := 16) rfl (by decide) ?_ ?_
    · intro h9
      refine wp_iconst (v := 0) rfl (by decide) ?_
      refine wp_ireturn rfl .boolean rfl rfl ?_
      refine ⟨_, rfl, rfl, ?_⟩
      first | exact rg_in hn h1 h9 | exact rg_hi hn h9 | exact rg_lo hn h1
    · intro h9
      refine wp_iconst (v := 1) rfl (by decide) ?_
      refine wp_goto (tgt := 17) rfl (by decide) ?_
      refine wp_ireturn rfl .boolean rfl rfl ?_
      refine ⟨_, rfl, rfl, ?_⟩
      first | exact rg_in hn h1 h9 | exact rg_hi hn h9 | exact rg_lo hn h1
theorem c_isClient : Cl X kX5_isClient [.inr (some p), .inl x] (K, z, kd, d, r) (fun rv M' => ∃ v, rv = some (.inl v) ∧ M' = (K, z, kd, d, r) ∧ h_rg x 0 4 v) := by
  refine h_ofWp oX5_isClient (by decide) (Nat.le_of_ble_eq_true rfl) ?_
  refine wp_iload_n rfl rfl ?_
  refine wp_if_lt (tgt := 13) rfl (by decide) ?_ ?_
  · intro h1
    refine wp_iconst (v := 0) rfl (by decide) ?_
    refine wp_ireturn rfl .boolean rfl rfl ?_
    refine ⟨_, rfl, rfl, ?_⟩
    first | exact rg_in (n := 4) (by omega) h1 h6 | exact rg_hi (n := 4) (by omega) h6 | exact rg_lo (by omega) h1
  · intro h1
    refine wp_iload_n rfl rfl ?_
    refine wp_iconst (v := 4) rfl (by decide) ?_
    refine wp_icmp_ge (tgt := 13) rfl (by decide) ?_ ?_
    · intro h6
      refine wp_iconst (v := 0) rfl (by decide) ?_
      refine wp_ireturn rfl .boolean rfl rfl ?_
      refine ⟨_, rfl, rfl, ?_⟩
      first | exact rg_in (n := 4) (by omega) h1 h6 | exact rg_hi (n := 4) (by omega) h6 | exact rg_lo (by omega) h1
    · intro h6
      refine wp_iconst (v := 1) rfl (by decide) ?_
      refine wp_goto (tgt := 14) rfl (by decide) ?_
      refine wp_ireturn rfl .boolean rfl rfl ?_
      refine ⟨_, rfl, rfl, ?_⟩
      first | exact rg_in (n := 4) (by omega) h1 h6 | exact rg_hi (n := 4) (by omega) h6 | exact rg_lo (by omega) h1
theorem c_isNumber : Cl X kX5_isNumber [.inr (some p), .inl x] (K, z, kd, d, r) (fun rv M' => ∃ v, rv = some (.inl v) ∧ M' = (K, z, kd, d, r) ∧ h_rg x 1 1001 v) := by
  refine h_ofWp oX5_isNumber (by decide) (Nat.le_of_ble_eq_true rfl) ?_
  refine wp_iload_n rfl rfl ?_
  refine wp_iconst (v := 1) rfl (by decide) ?_
  refine wp_icmp_lt (tgt := 16) rfl (by decide) ?_ ?_
  · intro h2
    refine wp_iconst (v := 0) rfl (by decide) ?_
    refine wp_ireturn rfl .boolean rfl rfl ?_
    refine ⟨_, rfl, rfl, ?_⟩
    first | exact rg_in1 (n := 1000) (by omega) h2 h9 | exact rg_hi' (n := 1000) (by omega) h9 | exact rg_lo1 (by omega) h2
  · intro h2
    refine wp_iload_n rfl rfl ?_
    refine wp_sipush (v := 1000) rfl (by decide) ?_
    refine wp_icmp_gt (tgt := 16) rfl (by decide) ?_ ?_
    · intro h9
      refine wp_iconst (v := 0) rfl (by decide) ?_
      refine wp_ireturn rfl .boolean rfl rfl ?_
      refine ⟨_, rfl, rfl, ?_⟩
      first | exact rg_in1 (n := 1000) (by omega) h2 h9 | exact rg_hi' (n := 1000) (by omega) h9 | exact rg_lo1 (by omega) h2
    · intro h9
      refine wp_iconst (v := 1) rfl (by decide) ?_
      refine wp_goto (tgt := 17) rfl (by decide) ?_
      refine wp_ireturn rfl .boolean rfl rfl ?_
      refine ⟨_, rfl, rfl, ?_⟩
      first | exact rg_in1 (n := 1000) (by omega) h2 h9 | exact rg_hi' (n := 1000) (by omega) h9 | exact rg_lo1 (by omega) h2
theorem c_areMessages : Cl X kX5_areMessages [.inr (some p), .inl x] (K, z, kd, d, r) (fun rv M' => ∃ v, rv = some (.inl v) ∧ M' = (K, z, kd, d, r) ∧ h_rg x 0 41 v) := by
  refine h_ofWp oX5_areMessages (by decide) (Nat.le_of_ble_eq_true rfl) ?_
  refine wp_iload_n rfl rfl ?_
  refine wp_if_lt (tgt := 14) rfl (by decide) ?_ ?_
  · intro h1
    refine wp_iconst (v := 0) rfl (by decide) ?_
    refine wp_ireturn rfl .boolean rfl rfl ?_
    refine ⟨_, rfl, rfl, ?_⟩
    first | exact rg_in' (n := 40) (by omega) h1 h7 | exact rg_hi' (n := 40) (by omega) h7 | exact rg_lo (by omega) h1
  · intro h1
    refine wp_iload_n rfl rfl ?_
    refine wp_bipush (v := 40) rfl (by decide) ?_
    refine wp_icmp_gt (tgt := 14) rfl (by decide) ?_ ?_
    · intro h7
      refine wp_iconst (v := 0) rfl (by decide) ?_
      refine wp_ireturn rfl .boolean rfl rfl ?_
      refine ⟨_, rfl, rfl, ?_⟩
      first | exact rg_in' (n := 40) (by omega) h1 h7 | exact rg_hi' (n := 40) (by omega) h7 | exact rg_lo (by omega) h1
    · intro h7
      refine wp_iconst (v := 1) rfl (by decide) ?_
      refine wp_goto (tgt := 15) rfl (by decide) ?_
      refine wp_ireturn rfl .boolean rfl rfl ?_
      refine ⟨_, rfl, rfl, ?_⟩
      first | exact rg_in' (n := 40) (by omega) h1 h7 | exact rg_hi' (n := 40) (by omega) h7 | exact rg_lo (by omega) h1
theorem c_isMajority {t : Nat} (hk : kd p = some (.inl 5)) (hv : d p 0 = nI n) (hn : n < 1000) (ht : t < 1000) : Cl X kX5_isMajority [.inr (some p), .inl (nI t)] (K, z, kd, d, r) (fun rv M' => rv = some (.inl (if n < t * 2 then 1 else 0)) ∧ M' = (K, z, kd, d, r)) := by
  refine h_ofWp oX5_isMajority (by decide) (Nat.le_of_ble_eq_true rfl) ?_
  have e2 : nI t * 2 = nI (t * 2) := pk_mul t 2
  refine wp_iload_n rfl rfl ?_
  refine wp_iconst (v := 2) rfl (by decide) ?_
  refine wp_imul rfl ?_
  refine wp_aload_n rfl rfl ?_
  refine st_getI rfl fX5_7 rfl (by assumption) (hv) ?_
  refine wp_icmp_le (tgt := 14) rfl (by decide) ?_ ?_
  · intro h7
    refine wp_iconst (v := 0) rfl (by decide) ?_
    refine wp_ireturn rfl .boolean rfl rfl ?_
    rw [e2, i_le, i_nI (by omega), i_nI (by omega)] at h7
    first | (rw [if_neg (by omega)]; exact ⟨rfl, rfl⟩) | (rw [if_pos (by omega)]; exact ⟨rfl, rfl⟩)
  · intro h7
    refine wp_iconst (v := 1) rfl (by decide) ?_
    refine wp_goto (tgt := 15) rfl (by decide) ?_
    refine wp_ireturn rfl .boolean rfl rfl ?_
    rw [e2, i_le, i_nI (by omega), i_nI (by omega)] at h7
    first | (rw [if_neg (by omega)]; exact ⟨rfl, rfl⟩) | (rw [if_pos (by omega)]; exact ⟨rfl, rfl⟩)
theorem c_no (hk : kd p = some (.inl 6)) (hv : d p 1 = nI n) (hn : n < 2147483648) : Cl X kX6_no [.inr (some p), .inl x] (K, z, kd, d, r) (fun rv M' => ∃ v, rv = some (.inl (1 - v)) ∧ M' = (K, z, kd, d, r) ∧ h_rg x 0 n v) := by
  refine h_ofWp oX6_no (by decide) (Nat.le_of_ble_eq_true rfl) ?_
  refine wp_iload_n rfl rfl ?_
  refine wp_if_lt (tgt := 12) rfl (by decide) ?_ ?_
  · intro h1
    refine wp_iconst (v := 1) rfl (by decide) ?_
    refine wp_goto (tgt := 17) rfl (by decide) ?_
    refine wp_ireturn rfl .boolean rfl rfl ?_
    first | exact ⟨1, rfl, rfl, rg_in hn h1 (rg_lt hn h9)⟩ | exact ⟨0, rfl, rfl, rg_hi hn (rg_nlt hn h9)⟩ | exact ⟨0, rfl, rfl, rg_lo hn h1⟩
  · intro h1
    refine wp_iload_n rfl rfl ?_
    refine wp_aload_n rfl rfl ?_
    refine st_getI rfl fX6_68 rfl (by assumption) (hv) ?_
    refine wp_icmp_lt (tgt := 16) rfl (by decide) ?_ ?_
    · intro h9
      refine wp_iconst (v := 0) rfl (by decide) ?_
      refine wp_ireturn rfl .boolean rfl rfl ?_
      first | exact ⟨1, rfl, rfl, rg_in hn h1 (rg_lt hn h9)⟩ | exact ⟨0, rfl, rfl, rg_hi hn (rg_nlt hn h9)⟩ | exact ⟨0, rfl, rfl, rg_lo hn h1⟩
    · intro h9
      refine wp_iconst (v := 1) rfl (by decide) ?_
      refine wp_goto (tgt := 17) rfl (by decide) ?_
      refine wp_ireturn rfl .boolean rfl rfl ?_
      first | exact ⟨1, rfl, rfl, rg_in hn h1 (rg_lt hn h9)⟩ | exact ⟨0, rfl, rfl, rg_hi hn (rg_nlt hn h9)⟩ | exact ⟨0, rfl, rfl, rg_lo hn h1⟩
theorem c_noTask (hk : kd p = some (.inl 6)) (hv : d p 16 = nI n) (hn : n < 2147483648) : Cl X kX6_noTask [.inr (some p), .inl x] (K, z, kd, d, r) (fun rv M' => ∃ v, rv = some (.inl (1 - v)) ∧ M' = (K, z, kd, d, r) ∧ h_rg x 0 n v) := by
  refine h_ofWp oX6_noTask (by decide) (Nat.le_of_ble_eq_true rfl) ?_
  refine wp_iload_n rfl rfl ?_
  refine wp_if_lt (tgt := 12) rfl (by decide) ?_ ?_
  · intro h1
    refine wp_iconst (v := 1) rfl (by decide) ?_
    refine wp_goto (tgt := 17) rfl (by decide) ?_
    refine wp_ireturn rfl .boolean rfl rfl ?_
    first | exact ⟨1, rfl, rfl, rg_in hn h1 (rg_lt hn h9)⟩ | exact ⟨0, rfl, rfl, rg_hi hn (rg_nlt hn h9)⟩ | exact ⟨0, rfl, rfl, rg_lo hn h1⟩
  · intro h1
    refine wp_iload_n rfl rfl ?_
    refine wp_aload_n rfl rfl ?_
    refine st_getI rfl fX6_121 rfl (by assumption) (hv) ?_
    refine wp_icmp_lt (tgt := 16) rfl (by decide) ?_ ?_
    · intro h9
      refine wp_iconst (v := 0) rfl (by decide) ?_
      refine wp_ireturn rfl .boolean rfl rfl ?_
      first | exact ⟨1, rfl, rfl, rg_in hn h1 (rg_lt hn h9)⟩ | exact ⟨0, rfl, rfl, rg_hi hn (rg_nlt hn h9)⟩ | exact ⟨0, rfl, rfl, rg_lo hn h1⟩
    · intro h9
      refine wp_iconst (v := 1) rfl (by decide) ?_
      refine wp_goto (tgt := 17) rfl (by decide) ?_
      refine wp_ireturn rfl .boolean rfl rfl ?_
      first | exact ⟨1, rfl, rfl, rg_in hn h1 (rg_lt hn h9)⟩ | exact ⟨0, rfl, rfl, rg_hi hn (rg_nlt hn h9)⟩ | exact ⟨0, rfl, rfl, rg_lo hn h1⟩
theorem c_isIn {lo hi : Int32} : Cl X kX6_isIn [.inl x, .inl lo, .inl hi] (K, z, kd, d, r) (fun rv M' => rv = some (.inl (if lo ≤ x ∧ x ≤ hi then 1 else 0)) ∧ M' = (K, z, kd, d, r)) := by
  refine h_ofWp oX6_isIn (by decide) (Nat.le_of_ble_eq_true rfl) ?_
  refine wp_iload_n rfl rfl ?_
  refine wp_iload_n rfl rfl ?_
  refine wp_icmp_lt (tgt := 14) rfl (by decide) ?_ ?_
  · intro h2
    refine wp_iconst (v := 0) rfl (by decide) ?_
    refine wp_ireturn rfl .boolean rfl rfl ?_
    first | (rw [if_pos ⟨by rw [i_lt] at h2; rw [i_le]; omega, by rw [i_lt] at h7; rw [i_le]; omega⟩]; exact ⟨rfl, rfl⟩) | (rw [if_neg (fun q => by rw [i_le, i_le] at q; rw [i_lt] at h2; omega)]; exact ⟨rfl, rfl⟩) | (rw [if_neg (fun q => by rw [i_le, i_le] at q; rw [i_lt] at h7; omega)]; exact ⟨rfl, rfl⟩)
  · intro h2
    refine wp_iload_n rfl rfl ?_
    refine wp_iload_n rfl rfl ?_
    refine wp_icmp_gt (tgt := 14) rfl (by decide) ?_ ?_
    · intro h7
      refine wp_iconst (v := 0) rfl (by decide) ?_
      refine wp_ireturn rfl .boolean rfl rfl ?_
      first | (rw [if_pos ⟨by rw [i_lt] at h2; rw [i_le]; omega, by rw [i_lt] at h7; rw [i_le]; omega⟩]; exact ⟨rfl, rfl⟩) | (rw [if_neg (fun q => by rw [i_le, i_le] at q; rw [i_lt] at h2; omega)]; exact ⟨rfl, rfl⟩) | (rw [if_neg (fun q => by rw [i_le, i_le] at q; rw [i_lt] at h7; omega)]; exact ⟨rfl, rfl⟩)
    · intro h7
      refine wp_iconst (v := 1) rfl (by decide) ?_
      refine wp_goto (tgt := 15) rfl (by decide) ?_
      refine wp_ireturn rfl .boolean rfl rfl ?_
      first | (rw [if_pos ⟨by rw [i_lt] at h2; rw [i_le]; omega, by rw [i_lt] at h7; rw [i_le]; omega⟩]; exact ⟨rfl, rfl⟩) | (rw [if_neg (fun q => by rw [i_le, i_le] at q; rw [i_lt] at h2; omega)]; exact ⟨rfl, rfl⟩) | (rw [if_neg (fun q => by rw [i_le, i_le] at q; rw [i_lt] at h7; omega)]; exact ⟨rfl, rfl⟩)
theorem c_max {a b : Int32} : Cl X kJ9_max_7cf53 [.inl a, .inl b] (K, z, kd, d, r) (fun rv M' => rv = some (.inl (if a < b then b else a)) ∧ M' = (K, z, kd, d, r)) := by
  refine h_ofWp oJ9_max_7cf53 (by decide +kernel) (Nat.le_of_ble_eq_true rfl) ?_
  refine wp_iload_n rfl rfl ?_
  refine wp_iload_n rfl rfl ?_
  refine wp_icmp_lt (tgt := 9) rfl (by decide) ?_ ?_
  · intro h2
    refine wp_iload_n rfl rfl ?_
    refine wp_ireturn rfl .int rfl rfl ?_
    first | (rw [if_pos h2]; exact ⟨rfl, rfl⟩) | (rw [if_neg h2]; exact ⟨rfl, rfl⟩)
  · intro h2
    refine wp_iload_n rfl rfl ?_
    refine wp_goto (tgt := 10) rfl (by decide) ?_
    refine wp_ireturn rfl .int rfl rfl ?_
    first | (rw [if_pos h2]; exact ⟨rfl, rfl⟩) | (rw [if_neg h2]; exact ⟨rfl, rfl⟩)
theorem c_min {a b : Int32} : Cl X kJ9_min_7cf53 [.inl a, .inl b] (K, z, kd, d, r) (fun rv M' => rv = some (.inl (if b < a then b else a)) ∧ M' = (K, z, kd, d, r)) := by
  refine h_ofWp oJ9_min_7cf53 (by decide +kernel) (Nat.le_of_ble_eq_true rfl) ?_
  refine wp_iload_n rfl rfl ?_
  refine wp_iload_n rfl rfl ?_
  refine wp_icmp_gt (tgt := 9) rfl (by decide) ?_ ?_
  · intro h2
    refine wp_iload_n rfl rfl ?_
    refine wp_ireturn rfl .int rfl rfl ?_
    first | (rw [if_pos h2]; exact ⟨rfl, rfl⟩) | (rw [if_neg h2]; exact ⟨rfl, rfl⟩)
  · intro h2
    refine wp_iload_n rfl rfl ?_
    refine wp_goto (tgt := 10) rfl (by decide) ?_
    refine wp_ireturn rfl .int rfl rfl ?_
    first | (rw [if_pos h2]; exact ⟨rfl, rfl⟩) | (rw [if_neg h2]; exact ⟨rfl, rfl⟩)
end SMALL
