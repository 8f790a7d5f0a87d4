/-! THE CONSTRUCTORS -/
/-- behind K nothing is -/
def Fr (K : Nat) (kd : Nat → Option hK) (d : Nat → Nat → Int32) (r : Nat → Nat → Option Nat) : Prop := ∀ q, K ≤ q → kd q = none ∧ (∀ j, d q j = 0) ∧ ∀ j, r q j = none
section FRESH
variable {X : hX} {k : hMI} {n0 z0 pc : Nat} {L : List (Option hV)} {st : List hV} {Q : Option hV → hM → Prop} {K z : Nat} {kd : Nat → Option hK} {d : Nat → Nat → Int32} {r : Nat → Nat → Option Nat}
theorem hd0_f (h : Fr K kd d r) : hd0 d K = d := by
  funext q i
  simp only [hd0]
  split
  · rename_i e
    rw [e]
    exact ((h K (Nat.le_refl _)).2.1 i).symm
  · rfl
theorem hr0_f (h : Fr K kd d r) : hr0 r K = r := by
  funext q i
  simp only [hr0]
  split
  · rename_i e
    rw [e]
    exact ((h K (Nat.le_refl _)).2.2 i).symm
  · rfl
theorem Fr_new {v : Option hK} (h : Fr K kd d r) : Fr (K + 1) (hu1 kd K v) d r := fun q hq => by
  rw [hu1_n (by omega)]
  exact h q (by omega)
theorem Fr_d {p j : Nat} {x : Int32} (h : Fr K kd d r) (hp : p < K) : Fr K kd (hu d p j x) r := fun q hq => by
  rw [row_n (by omega)]
  exact h q hq
theorem Fr_r {p j : Nat} {x : Option Nat} (h : Fr K kd d r) (hp : p < K) : Fr K kd d (hu r p j x) := fun q hq => by
  rw [row_n (by omega)]
  exact h q hq
theorem st_newF {idx c : Nat} (hat : h_at k pc = some (.new idx, 3)) (hf : h_cn k idx c) (hF : Fr K kd d r) (kk : Wp X k n0 z0 (pc + 3) L (.inr (some K) :: st) (K + 1, z + hN c, hu1 kd K (some (.inl c)), d, r) Q) : Wp X k n0 z0 pc L st (K, z, kd, d, r) Q := by
  refine st_new hat hf ?_
  rw [hd0_f hF, hr0_f hF]
  exact kk
theorem st_newaF {n t0 : Nat} {i : Int32} {aty : ArrayType} {ty : FieldType} (hat : h_at k pc = some (.newarray aty, 2)) (hty : newarray.typeOf aty = ty) (ht : hAT[t0]? = some ty) (hp : ty = .int ∨ ty = .boolean) (harr : Cond.arrayClass ty ∈ h_tbl) (hi : i = nI n) (hn : n < 100000) (hF : Fr K kd d r) (kk : Wp X k n0 z0 (pc + 2) L (.inr (some K) :: st) (K + 1, z + n, hu1 kd K (some (.inr (.inl (ty, n)))), d, r) Q) : Wp X k n0 z0 pc L (.inl i :: st) (K, z, kd, d, r) Q := by
  refine st_newa hat hty ht hp harr hi hn ?_
  rw [hd0_f hF, hr0_f hF]
  exact kk
theorem st_anewF {n t0 idx : Nat} {i : Int32} {C0 : String} (hat : h_at k pc = some (.anewarray idx, 3)) (ht : hAT[t0]? = some (.object C0)) (hl : Cond.classLink (ky k).cls idx C0 ∈ h_tbl) (ho : ∀ U, h_ex U → va_AO C0 U) (hi : i = nI n) (hn : n < 100000) (hF : Fr K kd d r) (kk : Wp X k n0 z0 (pc + 3) L (.inr (some K) :: st) (K + 1, z + n, hu1 kd K (some (.inr (.inr (.object C0, n)))), d, r) Q) : Wp X k n0 z0 pc L (.inl i :: st) (K, z, kd, d, r) Q := by
  refine st_anew hat ht hl ho hi hn ?_
  rw [hd0_f hF, hr0_f hF]
  exact kk
end FRESH
section INIT
variable {X : hX} {K z : Nat} {kd : Nat → Option hK} {d : Nat → Nat → Int32} {r : Nat → Nat → Option Nat} {P : Nat}
theorem c_init4 (hk : kd P = some (.inl 4)) : Cl X kX4_init [.inr (some P)] (K, z, kd, d, r) (fun rv M' => rv = none ∧ M' = (K, z, kd, hu (hu d P 3 (-1)) P 6 (-1), r)) := by
  refine h_ofWp oX4_init (by decide) (Nat.le_of_ble_eq_true rfl) ?_
  refine wp_aload_n rfl rfl ?_
  refine wp_obj rfl obX4_3 (by decide) (by decide) ?_
  refine wp_aload_n rfl rfl ?_
  refine wp_iconst (v := -1) rfl (by decide) ?_
  refine st_putI rfl fX4_11 rfl rfl ⟨rfl, rfl⟩ (by assumption) ?_
  refine wp_aload_n rfl rfl ?_
  refine wp_iconst (v := -1) rfl (by decide) ?_
  refine st_putI rfl fX4_15 rfl rfl ⟨rfl, rfl⟩ (by assumption) ?_
  refine wp_return rfl rfl ?_
  exact ⟨rfl, rfl⟩
theorem c_init0 (hF : Fr (P + 1) kd d r) (hk : kd P = some (.inl 0)) : Cl X kX0_init [.inr (some P)] (P + 1, z, kd, d, r) (fun rv M' => rv = none ∧ M' = (P + 3, z + 120, hu1 (hu1 kd (P + 1) (some (.inr (.inl (.boolean, 60))))) (P + 2) (some (.inr (.inl (.int, 60)))), d, hu (hu r P 0 (some (P + 1))) P 1 (some (P + 2)))) := by
  have k1 : ∀ v, hu1 kd (P + 1) v P = some (.inl 0) := fun v => (hu1_n (by omega)).trans hk
  have k2 : ∀ v w, hu1 (hu1 kd (P + 1) v) (P + 2) w P = some (.inl 0) := fun v w => (hu1_n (by omega)).trans (k1 v)
  refine h_ofWp oX0_init (by decide) (Nat.le_of_ble_eq_true rfl) ?_
  refine wp_aload_n rfl rfl ?_
  refine wp_obj rfl obX0_3 (by decide) (by decide) ?_
  refine wp_aload_n rfl rfl ?_
  refine wp_bipush (v := 60) rfl (by decide) ?_
  refine st_newaF (t0 := 1) (ty := .boolean) (n := 60) rfl rfl rfl (Or.inr rfl) ac_bool rfl (by first | decide | omega) (hF) ?_
  refine st_putFR rfl fX0_9 rfl rfl rfl rfl (fun _ => ⟨rfl, rfl⟩) (k1 _) ?_
  refine wp_aload_n rfl rfl ?_
  refine wp_bipush (v := 60) rfl (by decide) ?_
  refine st_newaF (t0 := 0) (ty := .int) (n := 60) rfl rfl rfl (Or.inl rfl) ac_int rfl (by first | decide | omega) (Fr_r (Fr_new hF) (by omega)) ?_
  refine st_putFR rfl fX0_15 rfl rfl rfl rfl (fun _ => ⟨rfl, rfl⟩) (k2 _ _) ?_
  refine wp_return rfl rfl ?_
  exact ⟨rfl, rfl⟩
/-- fields of tasks that are new -/
def dT (d : Nat → Nat → Int32) (P k : Nat) : Nat → Nat → Int32 := fun q j => if P + 7 ≤ q ∧ q < P + 7 + k ∧ (j = 3 ∨ j = 6) then -1 else d q j
theorem dT_0 : dT d P 0 = d := by
  funext q j
  simp only [dT]
  rw [if_neg (by omega)]
theorem dT_s {k : Nat} : hu (hu (dT d P k) (P + 7 + k) 3 (-1)) (P + 7 + k) 6 (-1) = dT d P (k + 1) := by
  funext q j
  simp only [dT, hu]
  by_cases h : q = P + 7 + k ∧ j = 6
  · rw [if_pos h, if_pos (by omega)]
  · rw [if_neg h]
    by_cases h2 : q = P + 7 + k ∧ j = 3
    · rw [if_pos h2, if_pos (by omega)]
    · rw [if_neg h2]
      by_cases h3 : P + 7 ≤ q ∧ q < P + 7 + k ∧ (j = 3 ∨ j = 6)
      · rw [if_pos h3, if_pos (by omega)]
      · rw [if_neg h3, if_neg (by omega)]
theorem c_init3 (hF : Fr (P + 1) kd d r) (hk : kd P = some (.inl 3)) (h0 : 0 < P) : Cl X kX3_init [.inr (some P)] (P + 1, z, kd, d, r) (fun rv M' => rv = none ∧ ∃ kd' r', M' = (P + 27, z + 234, kd', dT d P 20, r') ∧ Fr (P + 27) kd' (dT d P 20) r' ∧ (∀ q, q < P + 1 → kd' q = kd q) ∧ (∀ q j, q < P → r' q j = r q j) ∧ sc kd' r' P) := by
  refine h_ofWp oX3_init (by decide) (Nat.le_of_ble_eq_true rfl) ?_
  have e1 : ∀ v, hu1 kd (P + 1) v P = some (.inl 3) := fun v => (hu1_n (by omega)).trans hk
  have e2 : ∀ v w, hu1 (hu1 kd (P + 1) v) (P + 2) w P = some (.inl 3) := fun v w => (hu1_n (by omega)).trans (e1 v)
  have e3 : ∀ v w x, hu1 (hu1 (hu1 kd (P + 1) v) (P + 2) w) (P + 3) x P = some (.inl 3) := fun v w x => (hu1_n (by omega)).trans (e2 v w)
  have e4 : ∀ v w x y, hu1 (hu1 (hu1 (hu1 kd (P + 1) v) (P + 2) w) (P + 3) x) (P + 4) y P = some (.inl 3) := fun v w x y => (hu1_n (by omega)).trans (e3 v w x)
  have e5 : ∀ v w x y u, hu1 (hu1 (hu1 (hu1 (hu1 kd (P + 1) v) (P + 2) w) (P + 3) x) (P + 4) y) (P + 5) u P = some (.inl 3) := fun v w x y u => (hu1_n (by omega)).trans (e4 v w x y)
  have e6 : ∀ v w x y u t, hu1 (hu1 (hu1 (hu1 (hu1 (hu1 kd (P + 1) v) (P + 2) w) (P + 3) x) (P + 4) y) (P + 5) u) (P + 6) t P = some (.inl 3) := fun v w x y u t => (hu1_n (by omega)).trans (e5 v w x y u)
  refine wp_aload_n rfl rfl ?_
  refine wp_obj rfl obX3_1 (by decide) (by decide) ?_
  refine wp_aload_n rfl rfl ?_
  refine wp_iconst (v := 4) rfl (by decide) ?_
  refine st_newaF (t0 := 0) (ty := .int) (n := 4) rfl rfl rfl (Or.inl rfl) ac_int rfl (by first | decide | omega) (hF) ?_
  refine st_putFR rfl fX3_9 rfl rfl rfl rfl (fun _ => ⟨rfl, rfl⟩) (e1 _) ?_
  have F1 := Fr_r (p := P) (j := 0) (x := some (P + 1)) (Fr_new (v := some (.inr (.inl (.int, 4)))) hF) (by omega)
  refine wp_aload_n rfl rfl ?_
  refine wp_iconst (v := 4) rfl (by decide) ?_
  refine st_newaF (t0 := 0) (ty := .int) (n := 4) rfl rfl rfl (Or.inl rfl) ac_int rfl (by first | decide | omega) (F1) ?_
  refine st_putFR rfl fX3_13 rfl rfl rfl rfl (fun _ => ⟨rfl, rfl⟩) (e2 _ _) ?_
  have F2 := Fr_r (p := P) (j := 1) (x := some (P + 2)) (Fr_new (v := some (.inr (.inl (.int, 4)))) F1) (by omega)
  refine wp_aload_n rfl rfl ?_
  refine wp_bipush (v := 6) rfl (by decide) ?_
  refine st_newaF (t0 := 0) (ty := .int) (n := 6) rfl rfl rfl (Or.inl rfl) ac_int rfl (by first | decide | omega) (F2) ?_
  refine st_putFR rfl fX3_16 rfl rfl rfl rfl (fun _ => ⟨rfl, rfl⟩) (e3 _ _ _) ?_
  have F3 := Fr_r (p := P) (j := 2) (x := some (P + 3)) (Fr_new (v := some (.inr (.inl (.int, 6)))) F2) (by omega)
  refine wp_aload_n rfl rfl ?_
  refine wp_bipush (v := 20) rfl (by decide) ?_
  refine st_anewF (t0 := 4) (n := 20) rfl rfl (by decide +kernel) (fun _ h => h.2.2.1) rfl (by first | decide | omega) (F3) ?_
  refine st_putFR rfl fX3_21 rfl rfl rfl rfl (fun _ => ⟨rfl, rfl⟩) (e4 _ _ _ _) ?_
  have F4 := Fr_r (p := P) (j := 3) (x := some (P + 4)) (Fr_new (v := some (.inr (.inr (.object RX4, 20)))) F3) (by omega)
  refine wp_aload_n rfl rfl ?_
  refine wp_bipush (v := 20) rfl (by decide) ?_
  refine st_newaF (t0 := 1) (ty := .boolean) (n := 20) rfl rfl rfl (Or.inr rfl) ac_bool rfl (by first | decide | omega) (F4) ?_
  refine st_putFR rfl fX3_25 rfl rfl rfl rfl (fun _ => ⟨rfl, rfl⟩) (e5 _ _ _ _ _) ?_
  have F5 := Fr_r (p := P) (j := 4) (x := some (P + 5)) (Fr_new (v := some (.inr (.inl (.boolean, 20)))) F4) (by omega)
  refine wp_aload_n rfl rfl ?_
  refine wp_bipush (v := 20) rfl (by decide) ?_
  refine st_newaF (t0 := 0) (ty := .int) (n := 20) rfl rfl rfl (Or.inl rfl) ac_int rfl (by first | decide | omega) (F5) ?_
  refine st_putFR rfl fX3_29 rfl rfl rfl rfl (fun _ => ⟨rfl, rfl⟩) (e6 _ _ _ _ _ _) ?_
  refine wp_iconst (v := 0) rfl (by decide) ?_
  refine wp_istore_n rfl (by decide) ?_
  have F6 := Fr_r (p := P) (j := 5) (x := some (P + 6)) (Fr_new (v := some (.inr (.inl (.int, 20)))) F5) (by omega)
  generalize hk6 : hu1 (hu1 (hu1 (hu1 (hu1 (hu1 kd (P + 1) (some (.inr (.inl (.int, 4))))) (P + 1 + 1) (some (.inr (.inl (.int, 4))))) (P + 1 + 1 + 1) (some (.inr (.inl (.int, 6))))) (P + 1 + 1 + 1 + 1) (some (.inr (.inr (.object RX4, 20))))) (P + 1 + 1 + 1 + 1 + 1) (some (.inr (.inl (.boolean, 20))))) (P + 1 + 1 + 1 + 1 + 1 + 1) (some (.inr (.inl (.int, 20)))) = kd6 at F6 ⊢
  generalize hr6 : hu (hu (hu (hu (hu (hu r P 0 (some (P + 1))) P 1 (some (P + 2))) P 2 (some (P + 3))) P 3 (some (P + 4))) P 4 (some (P + 5))) P 5 (some (P + 6)) = r6 at F6 ⊢
  have q0 : kd6 P = some (.inl 3) := by rw [← hk6]; exact e6 _ _ _ _ _ _
  have q1 : kd6 (P + 1) = some (.inr (.inl (.int, 4))) := by rw [← hk6]; simp [hu1]
  have q2 : kd6 (P + 2) = some (.inr (.inl (.int, 4))) := by rw [← hk6]; simp [hu1]
  have q3 : kd6 (P + 3) = some (.inr (.inl (.int, 6))) := by rw [← hk6]; simp [hu1]
  have q4 : kd6 (P + 4) = some (.inr (.inr (.object RX4, 20))) := by rw [← hk6]; simp [hu1]
  have q5 : kd6 (P + 5) = some (.inr (.inl (.boolean, 20))) := by rw [← hk6]; simp [hu1]
  have q6 : kd6 (P + 6) = some (.inr (.inl (.int, 20))) := by rw [← hk6]; simp [hu1]
  have qo : ∀ q, q < P + 1 → kd6 q = kd q := fun q hq => by rw [← hk6, hu1_n (by omega), hu1_n (by omega), hu1_n (by omega), hu1_n (by omega), hu1_n (by omega), hu1_n (by omega)]
  have p0 : r6 P 0 = some (P + 1) := by rw [← hr6]; simp [hu]
  have p1 : r6 P 1 = some (P + 2) := by rw [← hr6]; simp [hu]
  have p2 : r6 P 2 = some (P + 3) := by rw [← hr6]; simp [hu]
  have p3 : r6 P 3 = some (P + 4) := by rw [← hr6]; simp [hu]
  have p4 : r6 P 4 = some (P + 5) := by rw [← hr6]; simp [hu]
  have p5 : r6 P 5 = some (P + 6) := by rw [← hr6]; simp [hu]
  have po : ∀ q j, q < P → r6 q j = r q j := fun q j hq => by rw [← hr6, hu_n (by omega), hu_n (by omega), hu_n (by omega), hu_n (by omega), hu_n (by omega), hu_n (by omega)]
  have loop : ∀ n k kd' r', k + n = 20 → Fr (P + 7 + k) kd' (dT d P k) r' → (∀ q, q < P + 7 → kd' q = kd6 q) → (∀ t, t < k → kd' (P + 7 + t) = some (.inl 4)) → (∀ q j, q < P + 7 → q ≠ P + 4 → r' q j = r6 q j) → (∀ t, t < k → r' (P + 4) t = some (P + 7 + t)) → Wp X kX3_init (P + 1) z 53 [some (.inr (some P)), some (.inl (nI k))] [] (P + 7 + k, z + 74 + 8 * k, kd', dT d P k, r') (fun rv M' => rv = none ∧ ∃ kd' r', M' = (P + 27, z + 234, kd', dT d P 20, r') ∧ Fr (P + 27) kd' (dT d P 20) r' ∧ (∀ q, q < P + 1 → kd' q = kd q) ∧ (∀ q j, q < P → r' q j = r q j) ∧ sc kd' r' P) := by
    intro n
    induction n with
    | zero =>
      intro k kd' r' hkn hF' g1 g2 g3 g4
      have : k = 20 := by omega
      subst this
      refine wp_iload_n rfl rfl ?_
      refine wp_bipush (v := 20) rfl (by decide) ?_
      refine wp_icmp_ge (tgt := 78) rfl (by decide) ?_ ?_
      · intro _
        refine wp_return rfl rfl ?_
        refine ⟨rfl, kd', r', rfl, hF', fun q hq => (g1 q (by omega)).trans (qo q hq), fun q j hq => (g3 q j (by omega) (by omega)).trans (po q j hq), (g1 _ (by omega)).trans q0, (g3 _ _ (by omega) (by omega)).trans p0, (g3 _ _ (by omega) (by omega)).trans p1, (g3 _ _ (by omega) (by omega)).trans p2, (g3 _ _ (by omega) (by omega)).trans p3, (g3 _ _ (by omega) (by omega)).trans p4, (g3 _ _ (by omega) (by omega)).trans p5, (g1 _ (by omega)).trans q1, (g1 _ (by omega)).trans q2, (g1 _ (by omega)).trans q3, (g1 _ (by omega)).trans q4, (g1 _ (by omega)).trans q5, (g1 _ (by omega)).trans q6, g4, g2, h0⟩
      · intro h
        exact absurd (show (20 : Int32) ≤ nI 20 by decide) h
    | succ n ih =>
      intro k kd' r' hkn hF' g1 g2 g3 g4
      have hk20 : k < 20 := by omega
      have s0 : kd' P = some (.inl 3) := (g1 _ (by omega)).trans q0
      have s3 : r' P 3 = some (P + 4) := (g3 _ _ (by omega) (by omega)).trans p3
      have s4 : kd' (P + 4) = some (.inr (.inr (.object RX4, 20))) := (g1 _ (by omega)).trans q4
      have n4 : ∀ v, hu1 kd' (P + 7 + k) v (P + 4) = some (.inr (.inr (.object RX4, 20))) := fun v => (hu1_n (by omega)).trans s4
      refine wp_iload_n rfl rfl ?_
      refine wp_bipush (v := 20) rfl (by decide) ?_
      refine wp_icmp_ge (tgt := 78) rfl (by decide) ?_ ?_
      · intro h
        exact absurd h (nI_ge (b := 20) hk20 (by omega))
      · intro _
        refine wp_aload_n rfl rfl ?_
        refine st_getR rfl fX3_21 rfl (by assumption) (s3) ?_
        refine wp_iload_n rfl rfl ?_
        refine st_newF rfl nX3_19 (hF') ?_
        refine wp_dup rfl ?_
        refine wp_N0 rfl mX3_init_32 (hu1_s) (Nat.le_of_ble_eq_true rfl) (c_init4 hu1_s) ?_
        rintro _ _ ⟨rfl, rfl⟩
        rw [dT_s]
        refine st_aast (t0 := 4) (c := 4) rfl (n4 _) (hu1_s) (by decide) rfl rfl (hk20) (by first | decide | omega) ?_
        refine wp_inc rfl rfl (by decide) ?_
        refine wp_goto (tgt := 53) rfl (by decide) ?_
        have hF2 : Fr (P + 7 + (k + 1)) (hu1 kd' (P + 7 + k) (some (.inl 4))) (dT d P (k + 1)) (hu r' (P + 4) k (some (P + 7 + k))) := by
          have h9 := Fr_d (p := P + 7 + k) (j := 6) (x := -1) (Fr_d (p := P + 7 + k) (j := 3) (x := -1) (Fr_new (v := some (.inl 4)) hF') (by omega)) (by omega)
          rw [dT_s] at h9
          exact Fr_r h9 (by omega)
        have := ih (k + 1) _ _ (by omega) hF2 (fun q hq => (hu1_n (by omega)).trans (g1 q hq)) (fun t ht => by
          by_cases e : t = k
          · subst e; exact hu1_s
          · rw [hu1_n (by omega)]; exact g2 t (by omega)) (fun q j h1 h2 => (hu_n (by omega)).trans (g3 q j h1 h2)) (fun t ht => by
          by_cases e : t = k
          · subst e; exact hu_s
          · rw [hu_n (by omega)]; exact g4 t (by omega))
        exact this
  have := loop 20 0 kd6 r6 (by omega) (by rw [dT_0]; exact F6) (fun _ _ => rfl) (fun t ht => absurd ht (by omega)) (fun _ _ _ _ => rfl) (fun t ht => absurd ht (by omega))
  rw [dT_0] at this
  exact this
/-- a new master's fields -/
def dM (d : Nat → Nat → Int32) (P : Nat) : Nat → Nat → Int32 := hu (dT d (P + 2) 20) P 8 1
theorem c_init1 {B : Nat} (hF : Fr (P + 1) kd d r) (hk : kd P = some (.inl 1)) (hB : kd B = some (.inl 2)) (hBP : B < P) : Cl X kX1_init [.inr (some P), .inr (some B)] (P + 1, z, kd, d, r) (fun rv M' => rv = none ∧ ∃ kd' r', M' = (P + 30, z + 362, kd', dM d P, r') ∧ Fr (P + 30) kd' (dM d P) r' ∧ (∀ q, q < P + 1 → kd' q = kd q) ∧ (∀ q j, q < P → r' q j = r q j) ∧ ms kd' r' P ∧ ∀ k, k < 60 → r' (P + 1) k = some B) := by
  refine h_ofWp oX1_init (by decide) (Nat.le_of_ble_eq_true rfl) ?_
  have e1 : ∀ v, hu1 kd (P + 1) v P = some (.inl 1) := fun v => (hu1_n (by omega)).trans hk
  refine wp_aload_n rfl rfl ?_
  refine wp_obj rfl obX1_3 (by decide) (by decide) ?_
  refine wp_aload_n rfl rfl ?_
  refine wp_bipush (v := 60) rfl (by decide) ?_
  refine st_anewF (t0 := 3) (n := 60) rfl rfl (by decide +kernel) (fun _ h => h.2.1) rfl (by first | decide | omega) (hF) ?_
  refine st_putFR rfl fX1_11 rfl rfl rfl rfl (fun _ => ⟨rfl, rfl⟩) (e1 _) ?_
  have F1 := Fr_r (p := P) (j := 0) (x := some (P + 1)) (Fr_new (v := some (.inr (.inr (.object RX2, 60)))) hF) (by omega)
  have F2 := Fr_new (v := some (.inl 3)) F1
  refine wp_aload_n rfl rfl ?_
  refine st_newF rfl nX1_17 (F1) ?_
  refine wp_dup rfl ?_
  refine wp_I0 rfl mX1_init_19 (hu1_s) (Nat.le_of_ble_eq_true rfl) (c_init3 (P := P + 2) F2 hu1_s (by omega)) ?_
  rintro _ _ ⟨rfl, kd3, r3, rfl, F3, g1, g2, gsc⟩
  have s0 : kd3 P = some (.inl 1) := by rw [g1 P (by omega), hu1_n (by omega), hu1_n (by omega)]; exact hk
  have s1 : kd3 (P + 1) = some (.inr (.inr (.object RX2, 60))) := by rw [g1 _ (by omega), hu1_n (by omega), hu1_s]
  have sB : kd3 B = some (.inl 2) := by rw [g1 B (by omega), hu1_n (by omega), hu1_n (by omega)]; exact hB
  have t0 : r3 P 0 = some (P + 1) := by rw [g2 P 0 (by omega), hu_s]
  have F4 := Fr_r (p := P) (j := 1) (x := some (P + 2)) F3 (by omega)
  have F5 := Fr_r (p := P) (j := 2) (x := some (P + 29)) (Fr_new (v := some (.inr (.inl (.int, 60)))) F4) (by omega)
  have F6 := Fr_d (p := P) (j := 8) (x := 1) F5 (by omega)
  have n0 : ∀ v, hu1 kd3 (P + 2 + 27) v P = some (.inl 1) := fun v => (hu1_n (by omega)).trans s0
  refine st_putFR rfl fX1_20 rfl rfl rfl rfl (fun _ => ⟨rfl, rfl⟩) (s0) ?_
  refine wp_aload_n rfl rfl ?_
  refine wp_bipush (v := 60) rfl (by decide) ?_
  refine st_newaF (t0 := 0) (ty := .int) (n := 60) rfl rfl rfl (Or.inl rfl) ac_int rfl (by first | decide | omega) (F4) ?_
  refine st_putFR rfl fX1_24 rfl rfl rfl rfl (fun _ => ⟨rfl, rfl⟩) (n0 _) ?_
  refine wp_aload_n rfl rfl ?_
  refine wp_iconst (v := 1) rfl (by decide) ?_
  refine st_putI rfl fX1_28 rfl rfl ⟨rfl, rfl⟩ (n0 _) ?_
  refine wp_iconst (v := 0) rfl (by decide) ?_
  refine wp_istore_n rfl (by decide) ?_
  generalize hkk : hu1 kd3 (P + 2 + 27) (some (.inr (.inl (.int, 60)))) = kd5 at F6 ⊢
  generalize hrr : hu (hu r3 P 1 (some (P + 2))) P 2 (some (P + 2 + 27)) = r5 at F6 ⊢
  have u : ∀ q, q < P + 29 → kd5 q = kd3 q := fun q hq => by rw [← hkk]; exact hu1_n (by omega)
  have u29 : kd5 (P + 29) = some (.inr (.inl (.int, 60))) := by rw [← hkk]; exact hu1_s
  have w : ∀ q j, q ≠ P → r5 q j = r3 q j := fun q j hq => by rw [← hrr, hu_n (by omega), hu_n (by omega)]
  have w0 : r5 P 0 = some (P + 1) := by rw [← hrr, hu_n (by omega), hu_n (by omega)]; exact t0
  have w1 : r5 P 1 = some (P + 2) := by rw [← hrr, hu_n (by omega), hu_s]
  have w2 : r5 P 2 = some (P + 29) := by rw [← hrr]; exact hu_s
  have loop : ∀ n k r', k + n = 60 → Fr (P + 30) kd5 (dM d P) r' → (∀ q j, q ≠ P + 1 → r' q j = r5 q j) → (∀ t, t < k → r' (P + 1) t = some B) → Wp X kX1_init (P + 1) z 39 [some (.inr (some P)), some (.inr (some B)), some (.inl (nI k))] [] (P + 30, z + 362, kd5, dM d P, r') (fun rv M' => rv = none ∧ ∃ kd' r', M' = (P + 30, z + 362, kd', dM d P, r') ∧ Fr (P + 30) kd' (dM d P) r' ∧ (∀ q, q < P + 1 → kd' q = kd q) ∧ (∀ q j, q < P → r' q j = r q j) ∧ ms kd' r' P ∧ ∀ k, k < 60 → r' (P + 1) k = some B) := by
    intro n
    induction n with
    | zero =>
      intro k r' hkn hF' h1 h2
      have : k = 60 := by omega
      subst this
      refine wp_iload_n rfl rfl ?_
      refine wp_bipush (v := 60) rfl (by decide) ?_
      refine wp_icmp_ge (tgt := 58) rfl (by decide) ?_ ?_
      · intro _
        refine wp_return rfl rfl ?_
        refine ⟨rfl, kd5, r', rfl, hF', fun q hq => ?_, fun q j hq => ?_, ⟨(u _ (by omega)).trans s0, (h1 _ _ (by omega)).trans w0, (h1 _ _ (by omega)).trans w1, (h1 _ _ (by omega)).trans w2, (u _ (by omega)).trans s1, u29, ?_, by omega⟩, h2⟩
        · by_cases e : q = P
          · subst e; rw [u q (by omega), s0, hk]
          · rw [u q (by omega), g1 q (by omega), hu1_n (by omega), hu1_n (by omega)]
        · rw [h1 q j (by omega), w q j (by omega), g2 q j (by omega), hu_n (by omega)]
        · obtain ⟨s0, s1, s2, s3, s4, s5, s6, s7, s8, s9, s10, s11, s12, s13, s14, s15⟩ := gsc
          have R : ∀ q j v, P + 2 ≤ q → r3 q j = v → r' q j = v := fun q j v hq e => (h1 q j (by omega)).trans ((w q j (by omega)).trans e)
          have KK : ∀ q v, q < P + 29 → kd3 q = v → kd5 q = v := fun q v hq e => (u q hq).trans e
          exact ⟨KK _ _ (by omega) s0, R _ _ _ (by omega) s1, R _ _ _ (by omega) s2, R _ _ _ (by omega) s3, R _ _ _ (by omega) s4, R _ _ _ (by omega) s5, R _ _ _ (by omega) s6, KK _ _ (by omega) s7, KK _ _ (by omega) s8, KK _ _ (by omega) s9, KK _ _ (by omega) s10, KK _ _ (by omega) s11, KK _ _ (by omega) s12, fun k hk => R _ _ _ (by omega) (s13 k hk), fun k hk => KK _ _ (by omega) (s14 k hk), s15⟩
      · intro h
        exact absurd (show (60 : Int32) ≤ nI 60 by decide) h
    | succ n ih =>
      intro k r' hkn hF' h1 h2
      have hk60 : k < 60 := by omega
      have m0 : kd5 P = some (.inl 1) := (u _ (by omega)).trans s0
      have m1 : kd5 (P + 1) = some (.inr (.inr (.object RX2, 60))) := (u _ (by omega)).trans s1
      have mB : kd5 B = some (.inl 2) := (u _ (by omega)).trans sB
      have v0 : r' P 0 = some (P + 1) := (h1 _ _ (by omega)).trans w0
      refine wp_iload_n rfl rfl ?_
      refine wp_bipush (v := 60) rfl (by decide) ?_
      refine wp_icmp_ge (tgt := 58) rfl (by decide) ?_ ?_
      · intro h
        exact absurd h (nI_ge (b := 60) hk60 (by omega))
      · intro _
        refine wp_aload_n rfl rfl ?_
        refine st_getR rfl fX1_11 rfl (by assumption) (v0) ?_
        refine wp_iload_n rfl rfl ?_
        refine wp_aload_n rfl rfl ?_
        refine st_aast (t0 := 3) (c := 2) rfl (m1) (mB) (by decide) rfl rfl (hk60) (by first | decide | omega) ?_
        refine wp_inc rfl rfl (by decide) ?_
        refine wp_goto (tgt := 39) rfl (by decide) ?_
        exact ih (k + 1) _ (by omega) (Fr_r hF' (by omega)) (fun q j hq => (hu_n (by omega)).trans (h1 q j hq)) (fun t ht => by
          by_cases e : t = k
          · subst e; exact hu_s
          · rw [hu_n (by omega)]; exact h2 t (by omega))
  exact loop 60 0 r5 (by omega) F6 (fun _ _ _ => rfl) (fun t ht => absurd ht (by omega))
theorem ms_mono {kd' : Nat → Option hK} {r' : Nat → Nat → Option Nat} (h : ms kd r P) (hk : ∀ q, P ≤ q → q < P + 30 → kd' q = kd q) (hr : ∀ q j, P ≤ q → q < P + 30 → r' q j = r q j) : ms kd' r' P := by
  obtain ⟨m0, m1, m2, m3, m4, m5, ⟨s0, s1, s2, s3, s4, s5, s6, s7, s8, s9, s10, s11, s12, s13, s14, s15⟩, m7⟩ := h
  have R : ∀ q j v, P ≤ q → q < P + 30 → r q j = v → r' q j = v := fun q j v h1 h2 e => (hr q j h1 h2).trans e
  have KK : ∀ q v, P ≤ q → q < P + 30 → kd q = v → kd' q = v := fun q v h1 h2 e => (hk q h1 h2).trans e
  exact ⟨KK _ _ (by omega) (by omega) m0, R _ _ _ (by omega) (by omega) m1, R _ _ _ (by omega) (by omega) m2, R _ _ _ (by omega) (by omega) m3, KK _ _ (by omega) (by omega) m4, KK _ _ (by omega) (by omega) m5, ⟨KK _ _ (by omega) (by omega) s0, R _ _ _ (by omega) (by omega) s1, R _ _ _ (by omega) (by omega) s2, R _ _ _ (by omega) (by omega) s3, R _ _ _ (by omega) (by omega) s4, R _ _ _ (by omega) (by omega) s5, R _ _ _ (by omega) (by omega) s6, KK _ _ (by omega) (by omega) s7, KK _ _ (by omega) (by omega) s8, KK _ _ (by omega) (by omega) s9, KK _ _ (by omega) (by omega) s10, KK _ _ (by omega) (by omega) s11, KK _ _ (by omega) (by omega) s12, fun k hk => R _ _ _ (by omega) (by omega) (s13 k hk), fun k hk => KK _ _ (by omega) (by omega) (s14 k hk), s15⟩, m7⟩
end INIT
