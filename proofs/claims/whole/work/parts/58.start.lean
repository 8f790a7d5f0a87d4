/-! THE START: both constructors -/
section START
variable {X : hX} {K z : Nat} {kd : Nat → Option hK} {d : Nat → Nat → Int32} {r : Nat → Nat → Option Nat} {N Y : Nat} {x : Int32}
theorem r_init (hF : Fr (Y + 1) kd d r) (hk : kd Y = some (.inl 6)) (h0 : 0 < Y) (hx : N = if x = 5 then 5 else 3) : Cl X kX6_init [.inr (some Y), .inl x] (Y + 1, z, kd, d, r) (fun rv M' => rv = none ∧ ∃ kd' r', M' = (Y + 20, z + 14628, kd', hu d Y 1 (nI N), r') ∧ Fr (Y + 20) kd' (hu d Y 1 (nI N)) r' ∧ (∀ q, q < Y + 1 → kd' q = kd q) ∧ (∀ q j, q < Y → r' q j = r q j) ∧ rs kd' r' Y) := by
  refine h_ofWp oX6_init (by decide) (Nat.le_of_ble_eq_true rfl) ?_
  refine wp_aload_n rfl rfl ?_
  refine wp_obj rfl obX6_1 (by decide) (by decide) ?_
  have kk1 := (hu1_n (x := (some (.inr (.inl (.int, 5))) : Option hK)) (q := Y) (p := Y + 1) (by omega)).trans hk
  refine wp_aload_n rfl rfl ?_
  refine wp_iconst (v := 5) rfl (by decide) ?_
  refine st_newaF (t0 := 0) (ty := .int) (n := 5) rfl rfl rfl (Or.inl rfl) ac_int rfl (by first | decide | omega) (hF) ?_
  refine st_putFR rfl fX6_7 rfl rfl rfl rfl (fun _ => ⟨rfl, rfl⟩) (kk1) ?_
  have F1 := Fr_r (p := Y) (j := 2) (x := some (Y + 1)) (Fr_new (v := some (.inr (.inl (.int, 5)))) hF) (by omega)
  have kk2 := (hu1_n (x := (some (.inr (.inl (.int, 5))) : Option hK)) (q := Y) (p := Y + 2) (by omega)).trans kk1
  refine wp_aload_n rfl rfl ?_
  refine wp_iconst (v := 5) rfl (by decide) ?_
  refine st_newaF (t0 := 0) (ty := .int) (n := 5) rfl rfl rfl (Or.inl rfl) ac_int rfl (by first | decide | omega) (F1) ?_
  refine st_putFR rfl fX6_13 rfl rfl rfl rfl (fun _ => ⟨rfl, rfl⟩) (kk2) ?_
  have F2 := Fr_r (p := Y) (j := 3) (x := some (Y + 2)) (Fr_new (v := some (.inr (.inl (.int, 5)))) F1) (by omega)
  have kk3 := (hu1_n (x := (some (.inr (.inl (.int, 5))) : Option hK)) (q := Y) (p := Y + 3) (by omega)).trans kk2
  refine wp_aload_n rfl rfl ?_
  refine wp_iconst (v := 5) rfl (by decide) ?_
  refine st_newaF (t0 := 0) (ty := .int) (n := 5) rfl rfl rfl (Or.inl rfl) ac_int rfl (by first | decide | omega) (F2) ?_
  refine st_putFR rfl fX6_16 rfl rfl rfl rfl (fun _ => ⟨rfl, rfl⟩) (kk3) ?_
  have F3 := Fr_r (p := Y) (j := 4) (x := some (Y + 3)) (Fr_new (v := some (.inr (.inl (.int, 5)))) F2) (by omega)
  have kk4 := (hu1_n (x := (some (.inr (.inl (.int, 5))) : Option hK)) (q := Y) (p := Y + 4) (by omega)).trans kk3
  refine wp_aload_n rfl rfl ?_
  refine wp_iconst (v := 5) rfl (by decide) ?_
  refine st_newaF (t0 := 0) (ty := .int) (n := 5) rfl rfl rfl (Or.inl rfl) ac_int rfl (by first | decide | omega) (F3) ?_
  refine st_putFR rfl fX6_19 rfl rfl rfl rfl (fun _ => ⟨rfl, rfl⟩) (kk4) ?_
  have F4 := Fr_r (p := Y) (j := 5) (x := some (Y + 4)) (Fr_new (v := some (.inr (.inl (.int, 5)))) F3) (by omega)
  have kk5 := (hu1_n (x := (some (.inr (.inl (.boolean, 5))) : Option hK)) (q := Y) (p := Y + 5) (by omega)).trans kk4
  refine wp_aload_n rfl rfl ?_
  refine wp_iconst (v := 5) rfl (by decide) ?_
  refine st_newaF (t0 := 1) (ty := .boolean) (n := 5) rfl rfl rfl (Or.inr rfl) ac_bool rfl (by first | decide | omega) (F4) ?_
  refine st_putFR rfl fX6_22 rfl rfl rfl rfl (fun _ => ⟨rfl, rfl⟩) (kk5) ?_
  have F5 := Fr_r (p := Y) (j := 6) (x := some (Y + 5)) (Fr_new (v := some (.inr (.inl (.boolean, 5)))) F4) (by omega)
  have kk6 := (hu1_n (x := (some (.inr (.inl (.boolean, 25))) : Option hK)) (q := Y) (p := Y + 6) (by omega)).trans kk5
  refine wp_aload_n rfl rfl ?_
  refine wp_bipush (v := 25) rfl (by decide) ?_
  refine st_newaF (t0 := 1) (ty := .boolean) (n := 25) rfl rfl rfl (Or.inr rfl) ac_bool rfl (by first | decide | omega) (F5) ?_
  refine st_putFR rfl fX6_26 rfl rfl rfl rfl (fun _ => ⟨rfl, rfl⟩) (kk6) ?_
  have F6 := Fr_r (p := Y) (j := 7) (x := some (Y + 6)) (Fr_new (v := some (.inr (.inl (.boolean, 25)))) F5) (by omega)
  have kk7 := (hu1_n (x := (some (.inr (.inl (.int, 2100))) : Option hK)) (q := Y) (p := Y + 7) (by omega)).trans kk6
  refine wp_aload_n rfl rfl ?_
  refine wp_sipush (v := 2100) rfl (by decide) ?_
  refine st_newaF (t0 := 0) (ty := .int) (n := 2100) rfl rfl rfl (Or.inl rfl) ac_int rfl (by first | decide | omega) (F6) ?_
  refine st_putFR rfl fX6_29 rfl rfl rfl rfl (fun _ => ⟨rfl, rfl⟩) (kk7) ?_
  have F7 := Fr_r (p := Y) (j := 8) (x := some (Y + 7)) (Fr_new (v := some (.inr (.inl (.int, 2100)))) F6) (by omega)
  have kk8 := (hu1_n (x := (some (.inr (.inl (.int, 12288))) : Option hK)) (q := Y) (p := Y + 8) (by omega)).trans kk7
  refine wp_aload_n rfl rfl ?_
  refine wp_sipush (v := 12288) rfl (by decide) ?_
  refine st_newaF (t0 := 0) (ty := .int) (n := 12288) rfl rfl rfl (Or.inl rfl) ac_int rfl (by first | decide | omega) (F7) ?_
  refine st_putFR rfl fX6_32 rfl rfl rfl rfl (fun _ => ⟨rfl, rfl⟩) (kk8) ?_
  have F8 := Fr_r (p := Y) (j := 12) (x := some (Y + 8)) (Fr_new (v := some (.inr (.inl (.int, 12288)))) F7) (by omega)
  have kk9 := (hu1_n (x := (some (.inr (.inl (.int, 4))) : Option hK)) (q := Y) (p := Y + 9) (by omega)).trans kk8
  refine wp_aload_n rfl rfl ?_
  refine wp_iconst (v := 4) rfl (by decide) ?_
  refine st_newaF (t0 := 0) (ty := .int) (n := 4) rfl rfl rfl (Or.inl rfl) ac_int rfl (by first | decide | omega) (F8) ?_
  refine st_putFR rfl fX6_35 rfl rfl rfl rfl (fun _ => ⟨rfl, rfl⟩) (kk9) ?_
  have F9 := Fr_r (p := Y) (j := 13) (x := some (Y + 9)) (Fr_new (v := some (.inr (.inl (.int, 4)))) F8) (by omega)
  have kk10 := (hu1_n (x := (some (.inr (.inl (.int, 6))) : Option hK)) (q := Y) (p := Y + 10) (by omega)).trans kk9
  refine wp_aload_n rfl rfl ?_
  refine wp_bipush (v := 6) rfl (by decide) ?_
  refine st_newaF (t0 := 0) (ty := .int) (n := 6) rfl rfl rfl (Or.inl rfl) ac_int rfl (by first | decide | omega) (F9) ?_
  refine st_putFR rfl fX6_38 rfl rfl rfl rfl (fun _ => ⟨rfl, rfl⟩) (kk10) ?_
  have F10 := Fr_r (p := Y) (j := 15) (x := some (Y + 10)) (Fr_new (v := some (.inr (.inl (.int, 6)))) F9) (by omega)
  have kk11 := (hu1_n (x := (some (.inr (.inl (.int, 20))) : Option hK)) (q := Y) (p := Y + 11) (by omega)).trans kk10
  refine wp_aload_n rfl rfl ?_
  refine wp_bipush (v := 20) rfl (by decide) ?_
  refine st_newaF (t0 := 0) (ty := .int) (n := 20) rfl rfl rfl (Or.inl rfl) ac_int rfl (by first | decide | omega) (F10) ?_
  refine st_putFR rfl fX6_41 rfl rfl rfl rfl (fun _ => ⟨rfl, rfl⟩) (kk11) ?_
  have F11 := Fr_r (p := Y) (j := 17) (x := some (Y + 11)) (Fr_new (v := some (.inr (.inl (.int, 20)))) F10) (by omega)
  have kk12 := (hu1_n (x := (some (.inr (.inl (.int, 20))) : Option hK)) (q := Y) (p := Y + 12) (by omega)).trans kk11
  refine wp_aload_n rfl rfl ?_
  refine wp_bipush (v := 20) rfl (by decide) ?_
  refine st_newaF (t0 := 0) (ty := .int) (n := 20) rfl rfl rfl (Or.inl rfl) ac_int rfl (by first | decide | omega) (F11) ?_
  refine st_putFR rfl fX6_44 rfl rfl rfl rfl (fun _ => ⟨rfl, rfl⟩) (kk12) ?_
  have F12 := Fr_r (p := Y) (j := 18) (x := some (Y + 12)) (Fr_new (v := some (.inr (.inl (.int, 20)))) F11) (by omega)
  have kk13 := (hu1_n (x := (some (.inr (.inl (.int, 20))) : Option hK)) (q := Y) (p := Y + 13) (by omega)).trans kk12
  refine wp_aload_n rfl rfl ?_
  refine wp_bipush (v := 20) rfl (by decide) ?_
  refine st_newaF (t0 := 0) (ty := .int) (n := 20) rfl rfl rfl (Or.inl rfl) ac_int rfl (by first | decide | omega) (F12) ?_
  refine st_putFR rfl fX6_47 rfl rfl rfl rfl (fun _ => ⟨rfl, rfl⟩) (kk13) ?_
  have F13 := Fr_r (p := Y) (j := 19) (x := some (Y + 13)) (Fr_new (v := some (.inr (.inl (.int, 20)))) F12) (by omega)
  have kk14 := (hu1_n (x := (some (.inr (.inl (.int, 20))) : Option hK)) (q := Y) (p := Y + 14) (by omega)).trans kk13
  refine wp_aload_n rfl rfl ?_
  refine wp_bipush (v := 20) rfl (by decide) ?_
  refine st_newaF (t0 := 0) (ty := .int) (n := 20) rfl rfl rfl (Or.inl rfl) ac_int rfl (by first | decide | omega) (F13) ?_
  refine st_putFR rfl fX6_50 rfl rfl rfl rfl (fun _ => ⟨rfl, rfl⟩) (kk14) ?_
  have F14 := Fr_r (p := Y) (j := 20) (x := some (Y + 14)) (Fr_new (v := some (.inr (.inl (.int, 20)))) F13) (by omega)
  have kk15 := (hu1_n (x := (some (.inr (.inl (.int, 20))) : Option hK)) (q := Y) (p := Y + 15) (by omega)).trans kk14
  refine wp_aload_n rfl rfl ?_
  refine wp_bipush (v := 20) rfl (by decide) ?_
  refine st_newaF (t0 := 0) (ty := .int) (n := 20) rfl rfl rfl (Or.inl rfl) ac_int rfl (by first | decide | omega) (F14) ?_
  refine st_putFR rfl fX6_53 rfl rfl rfl rfl (fun _ => ⟨rfl, rfl⟩) (kk15) ?_
  have F15 := Fr_r (p := Y) (j := 21) (x := some (Y + 15)) (Fr_new (v := some (.inr (.inl (.int, 20)))) F14) (by omega)
  have kk16 := (hu1_n (x := (some (.inr (.inl (.int, 20))) : Option hK)) (q := Y) (p := Y + 16) (by omega)).trans kk15
  refine wp_aload_n rfl rfl ?_
  refine wp_bipush (v := 20) rfl (by decide) ?_
  refine st_newaF (t0 := 0) (ty := .int) (n := 20) rfl rfl rfl (Or.inl rfl) ac_int rfl (by first | decide | omega) (F15) ?_
  refine st_putFR rfl fX6_56 rfl rfl rfl rfl (fun _ => ⟨rfl, rfl⟩) (kk16) ?_
  have F16 := Fr_r (p := Y) (j := 22) (x := some (Y + 16)) (Fr_new (v := some (.inr (.inl (.int, 20)))) F15) (by omega)
  have kk17 := (hu1_n (x := (some (.inr (.inl (.int, 20))) : Option hK)) (q := Y) (p := Y + 17) (by omega)).trans kk16
  refine wp_aload_n rfl rfl ?_
  refine wp_bipush (v := 20) rfl (by decide) ?_
  refine st_newaF (t0 := 0) (ty := .int) (n := 20) rfl rfl rfl (Or.inl rfl) ac_int rfl (by first | decide | omega) (F16) ?_
  refine st_putFR rfl fX6_59 rfl rfl rfl rfl (fun _ => ⟨rfl, rfl⟩) (kk17) ?_
  have F17 := Fr_r (p := Y) (j := 23) (x := some (Y + 17)) (Fr_new (v := some (.inr (.inl (.int, 20)))) F16) (by omega)
  have kk18 := (hu1_n (x := (some (.inr (.inl (.int, 20))) : Option hK)) (q := Y) (p := Y + 18) (by omega)).trans kk17
  refine wp_aload_n rfl rfl ?_
  refine wp_bipush (v := 20) rfl (by decide) ?_
  refine st_newaF (t0 := 0) (ty := .int) (n := 20) rfl rfl rfl (Or.inl rfl) ac_int rfl (by first | decide | omega) (F17) ?_
  refine st_putFR rfl fX6_62 rfl rfl rfl rfl (fun _ => ⟨rfl, rfl⟩) (kk18) ?_
  have F18 := Fr_r (p := Y) (j := 24) (x := some (Y + 18)) (Fr_new (v := some (.inr (.inl (.int, 20)))) F17) (by omega)
  have kk19 := (hu1_n (x := (some (.inr (.inl (.boolean, 20))) : Option hK)) (q := Y) (p := Y + 19) (by omega)).trans kk18
  refine wp_aload_n rfl rfl ?_
  refine wp_bipush (v := 20) rfl (by decide) ?_
  refine st_newaF (t0 := 1) (ty := .boolean) (n := 20) rfl rfl rfl (Or.inr rfl) ac_bool rfl (by first | decide | omega) (F18) ?_
  refine st_putFR rfl fX6_65 rfl rfl rfl rfl (fun _ => ⟨rfl, rfl⟩) (kk19) ?_
  have F19 := Fr_r (p := Y) (j := 25) (x := some (Y + 19)) (Fr_new (v := some (.inr (.inl (.boolean, 20)))) F18) (by omega)
  have key : ∀ (K1 z1 : Nat) (kd1 : Nat → Option hK) (r1 : Nat → Nat → Option Nat), K1 = Y + 20 → z1 = z + 14628 → Fr K1 kd1 d r1 → kd1 Y = some (.inl 6) → (∀ q, q < Y + 1 → kd1 q = kd q) → (∀ q j, q < Y → r1 q j = r q j) → rs kd1 r1 Y → Wp X kX6_init (Y + 1) z 152 [some (.inr (some Y)), some (.inl x)] [] (K1, z1, kd1, d, r1) (fun rv M' => rv = none ∧ ∃ kd' r', M' = (Y + 20, z + 14628, kd', hu d Y 1 (nI N), r') ∧ Fr (Y + 20) kd' (hu d Y 1 (nI N)) r' ∧ (∀ q, q < Y + 1 → kd' q = kd q) ∧ (∀ q j, q < Y → r' q j = r q j) ∧ rs kd' r' Y) := by
    intro K1 z1 kd1 r1 eK ez hF1 hk1 h1 h2 h3
    subst eK
    subst ez
    refine wp_aload_n rfl rfl ?_
    refine wp_iload_n rfl rfl ?_
    refine wp_iconst (v := 5) rfl (by decide) ?_
    refine wp_icmp_ne (tgt := 162) rfl (by decide) ?_ ?_
    · intro hc
      rw [if_neg hc] at hx
      subst hx
      refine wp_iconst (v := 3) rfl (by decide) ?_
      refine st_putI rfl fX6_68 rfl rfl ⟨rfl, rfl⟩ (by assumption) ?_
      refine wp_return rfl rfl ?_
      exact ⟨rfl, kd1, r1, rfl, Fr_d hF1 (by omega), h1, h2, h3⟩
    · intro hc
      rw [if_pos hc] at hx
      subst hx
      refine wp_iconst (v := 5) rfl (by decide) ?_
      refine wp_goto (tgt := 163) rfl (by decide) ?_
      refine st_putI rfl fX6_68 rfl rfl ⟨rfl, rfl⟩ (by assumption) ?_
      refine wp_return rfl rfl ?_
      exact ⟨rfl, kd1, r1, rfl, Fr_d hF1 (by omega), h1, h2, h3⟩
  refine key _ _ _ _ (by omega) (by omega) F19 kk19 (fun q hq => ?_) (fun q j hq => ?_) ?_
  · rw [hu1_n (by omega), hu1_n (by omega), hu1_n (by omega), hu1_n (by omega), hu1_n (by omega), hu1_n (by omega), hu1_n (by omega), hu1_n (by omega), hu1_n (by omega), hu1_n (by omega), hu1_n (by omega), hu1_n (by omega), hu1_n (by omega), hu1_n (by omega), hu1_n (by omega), hu1_n (by omega), hu1_n (by omega), hu1_n (by omega), hu1_n (by omega)]
  · rw [hu_n (by omega), hu_n (by omega), hu_n (by omega), hu_n (by omega), hu_n (by omega), hu_n (by omega), hu_n (by omega), hu_n (by omega), hu_n (by omega), hu_n (by omega), hu_n (by omega), hu_n (by omega), hu_n (by omega), hu_n (by omega), hu_n (by omega), hu_n (by omega), hu_n (by omega), hu_n (by omega), hu_n (by omega)]
  · clear key F1 F2 F3 F4 F5 F6 F7 F8 F9 F10 F11 F12 F13 F14 F15 F16 F17 F18 F19
    refine ⟨kk19, ?_, ?_, ?_, ?_, ?_, ?_, ?_, ?_, ?_, ?_, ?_, ?_, ?_, ?_, ?_, ?_, ?_, ?_, ?_, ?_, ?_, ?_, ?_, ?_, ?_, ?_, ?_, ?_, ?_, ?_, ?_, ?_, ?_, ?_, ?_, ?_, ?_, ?_, h0⟩ <;> simp [hu, hu1]
/-- a master's fields, on empty ground -/
theorem dM_z {P q j : Nat} (hz : ∀ q, P ≤ q → ∀ j, d q j = 0) (hq : P ≤ q) : dM d P q j = dM (fun _ _ => 0) P q j := by
  simp only [dM, hu, dT]
  rw [hz q hq j]
theorem dM_lo {P q j : Nat} (hq : q < P) : dM d P q j = d q j := by
  simp only [dM, hu, dT]
  rw [if_neg (by omega), if_neg (by omega)]
theorem c_init5 (hF : Fr 2 kd d r) (hk : kd 1 = some (.inl 5)) (h1 : ∀ j, d 1 j = 0) (hx : N = if x = 5 then 5 else 3) : Cl X kX5_init [.inr (some 1), .inl x] (2, z, kd, d, r) (fun rv M' => rv = none ∧ ∃ z' kd' d' r', M' = (8 + 30 * N, z', kd', d', r') ∧ z' ≤ z + 3000 ∧ Fr (8 + 30 * N) kd' d' r' ∧ Sh N kd' r' ∧ kd' 7 = some (.inl 2) ∧ (∀ i, i < N → ∀ k, k < 60 → r' (8 + 30 * i + 1) k = some 7) ∧ d' 1 0 = nI N ∧ (∀ j, j ≠ 0 → d' 1 j = 0) ∧ (∀ q j, 2 ≤ q → q ≤ 6 → d' q j = 0) ∧ (∀ i, i < N → ∀ q j, 8 + 30 * i ≤ q → q < 8 + 30 * i + 30 → d' q j = dM (fun _ _ => 0) (8 + 30 * i) q j) ∧ kd' 0 = kd 0 ∧ ∀ j, d' 0 j = d 0 j) := by
  have hN : N = 3 ∨ N = 5 := by rw [hx]; split <;> omega
  refine h_ofWp oX5_init (by decide) (Nat.le_of_ble_eq_true rfl) ?_
  generalize hQ : (fun (rv : Option hV) (M' : hM) => rv = none ∧ ∃ z' kd' d' r', M' = (8 + 30 * N, z', kd', d', r') ∧ z' ≤ z + 3000 ∧ Fr (8 + 30 * N) kd' d' r' ∧ Sh N kd' r' ∧ kd' 7 = some (.inl 2) ∧ (∀ i, i < N → ∀ k, k < 60 → r' (8 + 30 * i + 1) k = some 7) ∧ d' 1 0 = nI N ∧ (∀ j, j ≠ 0 → d' 1 j = 0) ∧ (∀ q j, 2 ≤ q → q ≤ 6 → d' q j = 0) ∧ (∀ i, i < N → ∀ q j, 8 + 30 * i ≤ q → q < 8 + 30 * i + 30 → d' q j = dM (fun _ _ => 0) (8 + 30 * i) q j) ∧ kd' 0 = kd 0 ∧ ∀ j, d' 0 j = d 0 j) = Q
  have rest : Wp X kX5_init 2 z 15 [some (.inr (some 1)), some (.inl x), none, none] [.inl (nI N), .inr (some 1)] (2, z, kd, d, r) Q := by
    have F0 := Fr_d (p := 1) (j := 0) (x := nI N) hF (by omega)
    have hNN : nI N * nI N = nI (N * N) := pk_mul N N
    have hNN2 : N * N ≤ 25 := by rcases hN with rfl | rfl <;> decide
    have a1 : hu1 kd 2 (some (.inr (.inl (.boolean, N * N)))) 1 = some (.inl 5) := (hu1_n (by omega)).trans hk
    refine st_putFI rfl fX5_7 rfl rfl rfl rfl ⟨rfl, rfl⟩ (by assumption) ?_
    refine wp_aload_n rfl rfl ?_
    refine wp_aload_n rfl rfl ?_
    refine st_getI rfl fX5_7 rfl (hk) (hu_s) ?_
    refine wp_aload_n rfl rfl ?_
    refine st_getI rfl fX5_7 rfl (hk) (hu_s) ?_
    refine wp_imul rfl ?_
    refine st_newaF (t0 := 1) (ty := .boolean) (n := N * N) rfl rfl rfl (Or.inr rfl) ac_bool (hNN) (by first | decide | omega) (F0) ?_
    refine st_putFR rfl fX5_13 rfl rfl rfl rfl (fun _ => ⟨rfl, rfl⟩) (a1) ?_
    have F1 := Fr_r (p := 1) (j := 2) (x := some 2) (Fr_new (v := some (.inr (.inl (.boolean, N * N)))) F0) (by omega)
    have F2 := Fr_new (v := some (.inl 0)) F1
    have kG : ∀ v, hu1 (hu1 kd 2 v) 3 (some (.inl 0)) 3 = some (.inl 0) := fun v => hu1_s
    refine wp_aload_n rfl rfl ?_
    refine st_newF rfl nX5_17 (F1) ?_
    refine wp_dup rfl ?_
    refine wp_N0 rfl mX5_init_19 (kG (some (.inr (.inl (.boolean, N * N))))) (Nat.le_of_ble_eq_true rfl) (c_init0 (P := 3) F2 hu1_s) ?_
    rintro _ _ ⟨rfl, rfl⟩
    have F3 := Fr_r (p := 3) (j := 0) (x := some 4) F2 (by omega)
    have F4 := Fr_r (p := 3) (j := 1) (x := some 5) (Fr_new (v := some (.inr (.inl (.int, 60)))) (Fr_new (v := some (.inr (.inl (.boolean, 60)))) F3)) (by omega)
    have F5 := Fr_r (p := 1) (j := 3) (x := some 3) F4 (by omega)
    generalize hkB : hu1 (hu1 (hu1 (hu1 kd 2 (some (.inr (.inl (.boolean, N * N))))) 3 (some (.inl 0))) (3 + 1) (some (.inr (.inl (.boolean, 60))))) (3 + 2) (some (.inr (.inl (.int, 60)))) = kdB at *
    have b0 : kdB 0 = kd 0 := by rw [← hkB, hu1_n (by omega), hu1_n (by omega), hu1_n (by omega), hu1_n (by omega)]
    have b1 : kdB 1 = some (.inl 5) := by rw [← hkB, hu1_n (by omega), hu1_n (by omega), hu1_n (by omega)]; exact a1
    have b2 : kdB 2 = some (.inr (.inl (.boolean, N * N))) := by rw [← hkB, hu1_n (by omega), hu1_n (by omega), hu1_n (by omega), hu1_s]
    have b3 : kdB 3 = some (.inl 0) := by rw [← hkB, hu1_n (by omega), hu1_n (by omega), hu1_s]
    have b4 : kdB 4 = some (.inr (.inl (.boolean, 60))) := by rw [← hkB, hu1_n (by omega)]; exact hu1_s
    have b5 : kdB 5 = some (.inr (.inl (.int, 60))) := by rw [← hkB]; exact hu1_s
    have a6 : hu1 kdB 6 (some (.inr (.inr (.object RX1, N)))) 1 = some (.inl 5) := (hu1_n (by omega)).trans b1
    refine st_putFR rfl fX5_20 rfl rfl rfl rfl (fun _ => ⟨rfl, rfl⟩) (b1) ?_
    refine wp_aload_n rfl rfl ?_
    refine wp_aload_n rfl rfl ?_
    refine st_getI rfl fX5_7 rfl (b1) (hu_s) ?_
    refine st_anewF (t0 := 2) (n := N) rfl rfl (by decide +kernel) (fun _ h => h.1) rfl (by first | decide | omega) (F5) ?_
    refine st_putFR rfl fX5_26 rfl rfl rfl rfl (fun _ => ⟨rfl, rfl⟩) (a6) ?_
    have F6 := Fr_r (p := 1) (j := 1) (x := some 6) (Fr_new (v := some (.inr (.inr (.object RX1, N)))) F5) (by omega)
    have F7 := Fr_new (v := some (.inl 2)) F6
    have kO : hu1 (hu1 kdB 6 (some (.inr (.inr (.object RX1, N))))) 7 (some (.inl 2)) 7 = some (.inl 2) := hu1_s
    refine st_newF rfl nX5_30 (F6) ?_
    refine wp_dup rfl ?_
    refine wp_iconst (v := 0) rfl (by decide) ?_
    refine wp_iconst (v := 0) rfl (by decide) ?_
    refine wp_iconst (v := 0) rfl (by decide) ?_
    refine wp_iconst (v := 0) rfl (by decide) ?_
    refine wp_iconst (v := 0) rfl (by decide) ?_
    refine wp_iconst (v := 0) rfl (by decide) ?_
    refine wp_iconst (v := 0) rfl (by decide) ?_
    refine wp_I7 rfl mX5_init_32 (kO) (Nat.le_of_ble_eq_true rfl) (c_init2 (P := 7) kO) ?_
    rintro _ _ ⟨rfl, d1, rfl, hd1, -⟩
    have F8 : Fr 8 (hu1 (hu1 kdB 6 (some (.inr (.inr (.object RX1, N))))) 7 (some (.inl 2))) d1 _ := fun q hq => by
      rw [hd1 q (by omega)]
      exact F7 q hq
    generalize hkA : hu1 (hu1 kdB 6 (some (.inr (.inr (.object RX1, N))))) 7 (some (.inl 2)) = kdA at *
    generalize hrA : hu (hu (hu (hu (hu r 1 2 (some 2)) 3 0 (some (3 + 1))) 3 1 (some (3 + 2))) 1 3 (some 3)) 1 1 (some (3 + 3)) = rA at *
    have c0 : ∀ q, q < 6 → kdA q = kdB q := fun q hq => by rw [← hkA, hu1_n (by omega), hu1_n (by omega)]
    have c6 : kdA 6 = some (.inr (.inr (.object RX1, N))) := by rw [← hkA, hu1_n (by omega), hu1_s]
    have c7 : kdA 7 = some (.inl 2) := by rw [← hkA, hu1_s]
    have e1 : rA 1 1 = some 6 := by rw [← hrA]; exact hu_s
    have e2 : rA 1 2 = some 2 := by rw [← hrA]; simp [hu]
    have e3 : rA 1 3 = some 3 := by rw [← hrA]; simp [hu]
    have e4 : rA 3 0 = some 4 := by rw [← hrA]; simp [hu]
    have e5 : rA 3 1 = some 5 := by rw [← hrA]; simp [hu]
    have dz : ∀ q j, q < 7 → d1 q j = hu d 1 0 (nI N) q j := fun q j hq => by rw [hd1 q (by omega)]
    have loop : ∀ n i z' kd' d' r', i + n = N → z' = z + (N * N + 131 + N) + 371 * i → Fr (8 + 30 * i) kd' d' r' → (∀ q, q < 8 → kd' q = kdA q) → (∀ q j, q < 8 → q ≠ 6 → r' q j = rA q j) → (∀ a, a < i → r' 6 a = some (8 + 30 * a) ∧ ms kd' r' (8 + 30 * a) ∧ ∀ k, k < 60 → r' (8 + 30 * a + 1) k = some 7) → (∀ q j, q < 7 → d' q j = d1 q j) → (∀ a, a < i → ∀ q j, 8 + 30 * a ≤ q → q < 8 + 30 * a + 30 → d' q j = dM (fun _ _ => 0) (8 + 30 * a) q j) → Wp X kX5_init 2 z 72 [some (.inr (some 1)), some (.inl x), some (.inr (some 7)), some (.inl (nI i))] [] (8 + 30 * i, z', kd', d', r') Q := by
      intro n
      induction n with
      | zero =>
        intro i z' kd' d' r' hi hz hF' g1 g2 g3 g4 g5
        have : i = N := by omega
        subst this
        have k1' : kd' 1 = some (.inl 5) := (g1 1 (by omega)).trans ((c0 1 (by omega)).trans b1)
        have s0 : d' 1 0 = nI i := by rw [g4 1 0 (by omega), dz 1 0 (by omega), hu_s]
        refine wp_iload_n rfl rfl ?_
        refine wp_aload_n rfl rfl ?_
        refine st_getI rfl fX5_7 rfl (k1') (s0) ?_
        refine wp_icmp_ge (tgt := 100) rfl (by decide) ?_ ?_
        · intro _
          refine wp_return rfl rfl ?_
          rw [← hQ]
          refine ⟨rfl, z', kd', d', r', rfl, by omega, hF', ⟨hN, k1', (g2 _ _ (by omega) (by omega)).trans e1, (g2 _ _ (by omega) (by omega)).trans e2, (g2 _ _ (by omega) (by omega)).trans e3, (g1 2 (by omega)).trans ((c0 2 (by omega)).trans b2), (g1 3 (by omega)).trans ((c0 3 (by omega)).trans b3), (g2 _ _ (by omega) (by omega)).trans e4, (g2 _ _ (by omega) (by omega)).trans e5, (g1 4 (by omega)).trans ((c0 4 (by omega)).trans b4), (g1 5 (by omega)).trans ((c0 5 (by omega)).trans b5), (g1 6 (by omega)).trans c6, fun a ha => ⟨(g3 a ha).1, (g3 a ha).2.1⟩⟩, (g1 7 (by omega)).trans c7, fun a ha => (g3 a ha).2.2, s0, fun j hj => ?_, fun q j h2 h6 => ?_, g5, (g1 0 (by omega)).trans ((c0 0 (by omega)).trans b0), fun j => ?_⟩
          · rw [g4 1 j (by omega), dz 1 j (by omega), hu_n (by omega)]; exact h1 j
          · rw [g4 q j (by omega), dz q j (by omega), hu_n (by omega)]; exact (hF q h2).2.1 j
          · rw [g4 0 j (by omega), dz 0 j (by omega), hu_n (by omega)]
        · intro h
          exact absurd (nI_le (Nat.le_refl _) (by omega)) h
      | succ n ih =>
        intro i z' kd' d' r' hi hz hF' g1 g2 g3 g4 g5
        have hiN : i < N := by omega
        have k1' : kd' 1 = some (.inl 5) := (g1 1 (by omega)).trans ((c0 1 (by omega)).trans b1)
        have k6' : kd' 6 = some (.inr (.inr (.object RX1, N))) := (g1 6 (by omega)).trans c6
        have k7' : kd' 7 = some (.inl 2) := (g1 7 (by omega)).trans c7
        have s0 : d' 1 0 = nI N := by rw [g4 1 0 (by omega), dz 1 0 (by omega), hu_s]
        have t1 : r' 1 1 = some 6 := (g2 _ _ (by omega) (by omega)).trans e1
        have G1 := Fr_new (v := some (.inl 1)) hF'
        have n7 : hu1 kd' (8 + 30 * i) (some (.inl 1)) 7 = some (.inl 2) := (hu1_n (by omega)).trans k7'
        refine wp_iload_n rfl rfl ?_
        refine wp_aload_n rfl rfl ?_
        refine st_getI rfl fX5_7 rfl (k1') (s0) ?_
        refine wp_icmp_ge (tgt := 100) rfl (by decide) ?_ ?_
        · intro h
          exact absurd h (nI_ge hiN (by omega))
        · intro _
          refine wp_aload_n rfl rfl ?_
          refine st_getR rfl fX5_26 rfl (k1') (t1) ?_
          refine wp_iload_n rfl rfl ?_
          refine st_newF rfl nX5_24 (hF') ?_
          refine wp_dup rfl ?_
          refine wp_aload_n rfl rfl ?_
          refine wp_I1 rfl mX5_init_35 (hu1_s) (Nat.le_of_ble_eq_true rfl) (c_init1 (P := 8 + 30 * i) G1 hu1_s n7 (by omega)) ?_
          rintro _ _ ⟨rfl, kd2, r2, rfl, F2', f1, f2, fms, fe⟩
          have m6 : kd2 6 = some (.inr (.inr (.object RX1, N))) := (f1 6 (by omega)).trans ((hu1_n (by omega)).trans k6')
          have mP : kd2 (8 + 30 * i) = some (.inl 1) := (f1 _ (by omega)).trans hu1_s
          refine st_aast (t0 := 2) (c := 1) rfl (m6) (mP) (by decide) rfl rfl (hiN) (by first | decide | omega) ?_
          refine wp_inc rfl rfl (by decide) ?_
          refine wp_goto (tgt := 72) rfl (by decide) ?_
          have low : ∀ q, q < 8 + 30 * i → kd2 q = kd' q := fun q hq => (f1 q (by omega)).trans (hu1_n (by omega))
          have := ih (i + 1) (z' + 371) kd2 (dM d' (8 + 30 * i)) (hu r2 6 i (some (8 + 30 * i))) (by omega) (by omega) (Fr_r F2' (by omega)) (fun q hq => (low q (by omega)).trans (g1 q hq)) (fun q j h1 h2 => (hu_n (by omega)).trans ((f2 q j (by omega)).trans (g2 q j h1 h2))) (fun a ha => by
            by_cases e : a = i
            · subst e
              exact ⟨hu_s, ms_mono fms (fun _ _ _ => rfl) (fun q j _ _ => hu_n (by omega)), fun k hk => (hu_n (by omega)).trans (fe k hk)⟩
            · obtain ⟨p1, p2, p3⟩ := g3 a (by omega)
              exact ⟨(hu_n (by omega)).trans ((f2 _ _ (by omega)).trans p1), ms_mono p2 (fun q _ _ => low q (by omega)) (fun q j _ _ => (hu_n (by omega)).trans (f2 q j (by omega))), fun k hk => (hu_n (by omega)).trans ((f2 _ _ (by omega)).trans (p3 k hk))⟩) (fun q j hq => (dM_lo (by omega)).trans (g4 q j hq)) (fun a ha q j h1 h2 => by
            by_cases e : a = i
            · subst e
              exact dM_z (fun q hq j => (hF' q hq).2.1 j) h1
            · rw [dM_lo (by omega)]
              exact g5 a (by omega) q j h1 h2)
          exact this
    refine wp_astore_n rfl (by decide) ?_
    refine wp_iconst (v := 0) rfl (by decide) ?_
    refine wp_istore_n rfl (by decide) ?_
    exact loop N 0 _ kdA d1 rA (by omega) (by show z + N * N + 4 + 120 + N + 7 = _; omega) F8 (fun _ _ => rfl) (fun _ _ _ _ => rfl) (fun a ha => absurd ha (by omega)) (fun _ _ _ => rfl) (fun a ha => absurd ha (by omega))
  refine wp_aload_n rfl rfl ?_
  refine wp_obj rfl obX5_1 (by decide) (by decide) ?_
  refine wp_aload_n rfl rfl ?_
  refine wp_iload_n rfl rfl ?_
  refine wp_iconst (v := 5) rfl (by decide) ?_
  refine wp_icmp_ne (tgt := 14) rfl (by decide) ?_ ?_
  · intro hc
    rw [if_neg hc] at hx
    refine wp_iconst (v := 3) rfl (by decide) ?_
    have := rest
    rw [hx] at this
    exact this
  · intro hc
    rw [if_pos hc] at hx
    refine wp_iconst (v := 5) rfl (by decide) ?_
    refine wp_goto (tgt := 15) rfl (by decide) ?_
    have := rest
    rw [hx] at this
    exact this
end START
