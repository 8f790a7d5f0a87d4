/-! THE CLASS: carrying out what is done, giving an answer, the next view -/
/-- the scheduler at p is T, as far as it goes -/
def sQd (d : Nat → Nat → Int32) (p : Nat) (T : Sch) : Prop := ∃ S, sR d p S ∧ Sq S T
theorem sQd_keep {d d' : Nat → Nat → Int32} {p : Nat} {T : Sch} (h : sQd d p T) (hd : ∀ q, p ≤ q → q < p + 27 → d' q = d q) : sQd d' p T := by
  obtain ⟨S, ⟨a1, a2, a3, a4, a5, a6⟩, b1, b2, b3, b4, b5, b6⟩ := h
  refine ⟨(S.1, S.2.1, S.2.2.1, S.2.2.2.1, tk d' p, S.2.2.2.2.2), ⟨?_, ?_, ?_, ?_, rfl, ?_⟩, b1, b2, b3, b4, ?_, b6⟩
  · rw [hd p (by omega) (by omega)]; exact a1
  · rw [hd p (by omega) (by omega)]; exact a2
  · rw [hd _ (by omega) (by omega)]; exact a3
  · rw [hd _ (by omega) (by omega)]; exact a4
  · rw [hd _ (by omega) (by omega)]; exact a6
  · intro t ht
    rw [← b5 t ht, ← a5]
    exact hd _ (by omega) (by omega)
def cS (N : Nat) (d : Nat → Nat → Int32) (g : Nat → Nat → Nat → Int32) (co : Nat → Nat) : Prop := ∀ i, i < N → d (8 + 30 * i) 3 = nI (co i) ∧ sQd d (8 + 30 * i + 2) (rnS (g i) (co i)) ∧ ∀ k, k < co i → d (8 + 30 * i + 29) k = anS (g i) k
theorem ord_ne {N : Nat} {kd : Nat → Option hK} {r : Nat → Nat → Option Nat} (hS : Sh N kd r) {i o : Nat} (hi : i < N) (ho : kd o = some (.inl 2)) : ¬ (8 + 30 * i ≤ o ∧ o ≤ 37 + 30 * i) := by
  intro hc
  obtain ⟨c0, m0, m1, m2, m3, m4, m5, ⟨s0, s1, s2, s3, s4, s5, s6, s7, s8, s9, s10, s11, s12, s13, s14, s15⟩, m7⟩ := hS.2.2.2.2.2.2.2.2.2.2.2.2 i hi
  rcases (show o = 8 + 30 * i ∨ o = 8 + 30 * i + 1 ∨ o = 8 + 30 * i + 2 ∨ o = 8 + 30 * i + 2 + 1 ∨ o = 8 + 30 * i + 2 + 2 ∨ o = 8 + 30 * i + 2 + 3 ∨ o = 8 + 30 * i + 2 + 4 ∨ o = 8 + 30 * i + 2 + 5 ∨ o = 8 + 30 * i + 2 + 6 ∨ o = 8 + 30 * i + 29 ∨ (∃ k, k < 20 ∧ o = 8 + 30 * i + 2 + 7 + k) by
    by_cases h : 8 + 30 * i + 9 ≤ o ∧ o < 8 + 30 * i + 29
    · exact Or.inr (Or.inr (Or.inr (Or.inr (Or.inr (Or.inr (Or.inr (Or.inr (Or.inr (Or.inr ⟨o - (8 + 30 * i + 9), by omega, by omega⟩)))))))))
    · omega) with rfl | rfl | rfl | rfl | rfl | rfl | rfl | rfl | rfl | rfl | ⟨k, hk, rfl⟩
  · rw [m0] at ho; cases ho
  · rw [m4] at ho; cases ho
  · rw [s0] at ho; cases ho
  · rw [s7] at ho; cases ho
  · rw [s8] at ho; cases ho
  · rw [s9] at ho; cases ho
  · rw [s10] at ho; cases ho
  · rw [s11] at ho; cases ho
  · rw [s12] at ho; cases ho
  · rw [m5] at ho; cases ho
  · rw [s14 k hk] at ho; cases ho
section CARRY
variable {X : hX} {K z : Nat} {kd : Nat → Option hK} {d d0 : Nat → Nat → Int32} {r r0 : Nat → Nat → Option Nat} {N m j : Nat} {A : PS}
theorem c_carry {co : Nat → Nat} (hS : Sh N kd r) (hd : d 1 0 = nI N) (hW : cW N kd d r A d r) (hC : cS N d (pg A) co) (hco : ∀ i, i < N → co i ≤ pd A i ∧ pd A i ≤ pl A i) : Cl X kX5_carryOutWhatIsDone [.inr (some 1)] (K, z, kd, d, r) (fun rv M' => rv = none ∧ ∃ d', M' = (K, z, kd, d', r) ∧ (∀ q j, (∀ i, i < N → ¬ (q = 8 + 30 * i ∧ j = 3) ∧ ¬ (10 + 30 * i ≤ q ∧ q ≤ 37 + 30 * i)) → d' q j = d q j) ∧ cS N d' (pg A) (pd A)) := by
  obtain ⟨hN, k1, a1, a2, a3, k2, k3, b0, b1, k4, k5, k6, hmm⟩ := id hS
  obtain ⟨w1, w2, w3, w4, w5⟩ := hW
  refine h_ofWp oX5_carryOutWhatIsDone (by decide) (Nat.le_of_ble_eq_true rfl) ?_
  generalize hQ : (fun (rv : Option hV) (M' : hM) => rv = none ∧ ∃ d', M' = (K, z, kd, d', r) ∧ (∀ q j, (∀ i, i < N → ¬ (q = 8 + 30 * i ∧ j = 3) ∧ ¬ (10 + 30 * i ≤ q ∧ q ≤ 37 + 30 * i)) → d' q j = d q j) ∧ cS N d' (pg A) (pd A)) = Q
  have outer : ∀ n i d' x2 x3 (c : Nat → Nat), i + n = N → (∀ q j, (∀ i, i < N → ¬ (q = 8 + 30 * i ∧ j = 3) ∧ ¬ (10 + 30 * i ≤ q ∧ q ≤ 37 + 30 * i)) → d' q j = d q j) → cS N d' (pg A) c → (∀ a, a < i → c a = pd A a) → (∀ a, i ≤ a → c a = co a) → Wp X kX5_carryOutWhatIsDone K z 2 [some (.inr (some 1)), some (.inl (nI i)), x2, x3] [] (K, z, kd, d', r) Q := by
    intro n
    induction n with
    | zero =>
      intro i d' x2 x3 c hi hf hc h1 h2
      have : i = N := by omega
      subst this
      refine wp_iload_n rfl rfl ?_
      refine wp_aload_n rfl rfl ?_
      refine st_getI rfl fX5_7 rfl (by assumption) ((hf 1 0 (fun i _ => by omega)).trans hd) ?_
      refine wp_icmp_ge (tgt := 76) rfl (by decide) ?_ ?_
      · intro _
        refine wp_return rfl rfl ?_
        rw [← hQ]
        refine ⟨rfl, d', rfl, hf, fun a ha => ?_⟩
        have := hc a ha
        rw [h1 a ha] at this
        exact this
      · intro h
        exact absurd (nI_le (Nat.le_refl _) (by omega)) h
    | succ n ih =>
      intro i d' x2 x3 c hi hf hc h1 h2
      have hiN : i < N := by omega
      obtain ⟨ri, mi⟩ := hmm i hiN
      obtain ⟨v4, v5, v6, v7, l60, e60, -, -, hlg⟩ := w4 i hiN
      obtain ⟨hce, hel⟩ := hco i hiN
      obtain ⟨m0, m1, m2, m3, m4, m5, msc, m7⟩ := id mi
      have inner : ∀ l k d' (c : Nat → Nat), k + l = pd A i → (∀ q j, (∀ i, i < N → ¬ (q = 8 + 30 * i ∧ j = 3) ∧ ¬ (10 + 30 * i ≤ q ∧ q ≤ 37 + 30 * i)) → d' q j = d q j) → cS N d' (pg A) c → c i = k → (∀ a, a < i → c a = pd A a) → (∀ a, i < a → c a = co a) → Wp X kX5_carryOutWhatIsDone K z 22 [some (.inr (some 1)), some (.inl (nI i)), some (.inr (some (8 + 30 * i))), some (.inl (nI k))] [] (K, z, kd, d', r) Q := by
        intro l
        induction l with
        | zero =>
          intro k d' c hk hf hc hck h1 h2
          have e7 : d' (8 + 30 * i) 7 = nI (pd A i) := (hf _ _ (fun a _ => by omega)).trans v7
          refine wp_iload_n rfl rfl ?_
          refine wp_aload_n rfl rfl ?_
          refine st_getI rfl fX5_102 rfl (by assumption) (e7) ?_
          refine wp_icmp_ge (tgt := 70) rfl (by decide) ?_ ?_
          · intro _
            refine wp_inc rfl rfl (by decide) ?_
            refine wp_goto (tgt := 2) rfl (by decide) ?_
            refine ih (i + 1) d' _ _ c (by omega) hf hc (fun a ha => ?_) (fun a ha => h2 a (by omega))
            by_cases e : a = i
            · subst e; omega
            · exact h1 a (by omega)
          · intro h
            exact absurd (nI_le (by omega) (by omega)) h
        | succ l ihl =>
          intro k d' c hk hf hc hck h1 h2
          have e7 : d' (8 + 30 * i) 7 = nI (pd A i) := (hf _ _ (fun a _ => by omega)).trans v7
          have e6 : d' (8 + 30 * i) 6 = nI (pl A i) := (hf _ _ (fun a _ => by omega)).trans v6
          have hk60 : k < 60 := by omega
          obtain ⟨q1, q2⟩ := w3 i hiN k hk60
          obtain ⟨c3, ⟨S, hR, hq⟩, can⟩ := hc i hiN
          have hq0 := hq
          have hOk : sOk S := by
            have hO := rnS_ok (pg A i) (c i)
            obtain ⟨b1, b2, b3, b4, b5, b6⟩ := hq
            refine ⟨by rw [b1]; exact hO.1, by rw [b2]; exact hO.2.1, fun t ht => ?_⟩
            have ht' : t < (rnS (pg A i) (c i)).2.1 := by rw [← b2]; exact ht
            have := hO.2.2 t ht'
            rw [b5 t (by have := hO.2.1; omega)]
            exact this
          have hord : ∀ x, x < 7 → d' (op r (8 + 30 * i) k) x = pg A i k x := fun x hx => by
            rw [hf _ _ (fun a ha => ⟨fun hc => ord_ne hS ha q2 (by omega), fun hc => ord_ne hS ha q2 (by omega)⟩)]
            exact hlg k (by omega) x hx
          refine wp_iload_n rfl rfl ?_
          refine wp_aload_n rfl rfl ?_
          refine st_getI rfl fX5_102 rfl (by assumption) (e7) ?_
          refine wp_icmp_ge (tgt := 70) rfl (by decide) ?_ ?_
          · intro h
            exact absurd h (nI_ge (by omega) (by omega))
          · intro _
            refine wp_iload_n rfl rfl ?_
            refine wp_aload_n rfl rfl ?_
            refine st_getI rfl fX5_90 rfl (by assumption) (e6) ?_
            refine wp_icmp_ge (tgt := 70) rfl (by decide) ?_ ?_
            · intro h
              exact absurd h (nI_ge (by omega) (by omega))
            · intro _
              have hans := c_answerTo (X := X) (K := K) (z := z) (d := d') msc hR hOk q2
              rw [hord 2 (by omega), hord 3 (by omega), hord 4 (by omega), hord 5 (by omega), hord 6 (by omega)] at hans
              refine wp_aload_n rfl rfl ?_
              refine st_getR rfl fX5_198 rfl (by assumption) (by assumption) ?_
              refine wp_iload_n rfl rfl ?_
              refine wp_aload_n rfl rfl ?_
              refine st_getR rfl fX5_112 rfl (by assumption) (by assumption) ?_
              refine wp_aload_n rfl rfl ?_
              refine st_getR rfl fX5_105 rfl (by assumption) (by assumption) ?_
              refine wp_iload_n rfl rfl ?_
              refine st_aald (t0 := 3) rfl (by assumption) rfl rfl (by omega) (by first | decide | omega) (q1) ?_
              refine wp_V1 rfl mX5_carryOutWhatIsDone_201 (msc.1) (Nat.le_of_ble_eq_true rfl) (hans) ?_
              rintro _ _ ⟨rfl, d2, rfl, hd2, hR2⟩
              refine st_iast rfl (by assumption) (by omega) rfl (hk60) (by first | decide | omega) ?_
              refine wp_aload_n rfl rfl ?_
              refine wp_iload_n rfl rfl ?_
              refine wp_iconst (v := 1) rfl (by decide) ?_
              refine wp_iadd rfl ?_
              refine st_putI rfl fX5_195 rfl rfl ⟨rfl, rfl⟩ (by assumption) ?_
              refine wp_inc rfl rfl (by decide) ?_
              refine wp_goto (tgt := 22) rfl (by decide) ?_
              have hqa := q_act hq0 hOk.2.1 (pg A i k 2) (pg A i k 3) (pg A i k 4) (pg A i k 5) (pg A i k 6)
              rw [hck] at hqa
              have fr : ∀ q, q ≠ 8 + 30 * i + 29 → q ≠ 8 + 30 * i → (q < 10 + 30 * i ∨ 37 + 30 * i ≤ q) → hu (hu d2 (8 + 30 * i + 29) k (sAct S (pg A i k 2) (pg A i k 3) (pg A i k 4) (pg A i k 5) (pg A i k 6)).2) (8 + 30 * i) 3 (nI k + 1) q = d' q := fun q a b c => by
                rw [row_n b, row_n a]
                exact hd2 q (by omega)
              refine ihl (k + 1) _ (hu1 c i (k + 1)) (by omega) ?_ ?_ hu1_s (fun a ha => by rw [hu1_n (by omega)]; exact h1 a ha) (fun a ha => by rw [hu1_n (by omega)]; exact h2 a ha)
              · intro q j hq
                have hqi := hq i hiN
                by_cases e : q = 8 + 30 * i
                · subst e
                  rw [hu_n (by omega), row_n (by omega), hd2 _ (by omega)]
                  exact hf _ _ hq
                · rw [fr q (by omega) e (by omega)]
                  exact hf _ _ hq
              · intro a ha
                by_cases e : a = i
                · subst e
                  rw [hu1_s]
                  refine ⟨by rw [hu_s, nI_1], ?_, fun x hx => ?_⟩
                  · refine sQd_keep (d := d2) ⟨_, hR2, hqa.1⟩ (fun q h1 h2 => ?_)
                    rw [row_n (by omega), row_n (by omega)]
                  · rw [row_n (by omega)]
                    by_cases ex : x = k
                    · subst ex
                      rw [hu_s]
                      exact hqa.2
                    · rw [hu_n (by omega), hd2 _ (by omega)]
                      exact can x (by omega)
                · rw [hu1_n e]
                  obtain ⟨x3, x4, x5⟩ := hc a ha
                  refine ⟨?_, sQd_keep x4 (fun q h1 h2 => fr q (by omega) (by omega) (by omega)), fun x hx => ?_⟩
                  · rw [fr _ (by omega) (by omega) (by omega)]; exact x3
                  · rw [fr _ (by omega) (by omega) (by omega)]; exact x5 x hx
      refine wp_iload_n rfl rfl ?_
      refine wp_aload_n rfl rfl ?_
      refine st_getI rfl fX5_7 rfl (by assumption) ((hf 1 0 (fun i _ => by omega)).trans hd) ?_
      refine wp_icmp_ge (tgt := 76) rfl (by decide) ?_ ?_
      · intro h
        exact absurd h (nI_ge hiN (by omega))
      · intro _
        have hci := h2 i (Nat.le_refl i)
        have c3 : d' (8 + 30 * i) 3 = nI (co i) := by rw [← hci]; exact (hc i hiN).1
        refine wp_aload_n rfl rfl ?_
        refine st_getR rfl fX5_26 rfl (by assumption) (by assumption) ?_
        refine wp_iload_n rfl rfl ?_
        refine st_aald (t0 := 2) rfl (by assumption) rfl rfl (hiN) (by first | decide | omega) (ri) ?_
        refine wp_astore_n rfl (by decide) ?_
        refine wp_aload_n rfl rfl ?_
        refine st_getI rfl fX5_195 rfl (by assumption) (c3) ?_
        refine wp_istore_n rfl (by decide) ?_
        exact inner (pd A i - co i) (co i) d' c (by omega) hf hc hci h1 (fun a ha => h2 a (by omega))
  refine wp_iconst (v := 0) rfl (by decide) ?_
  refine wp_istore_n rfl (by decide) ?_
  exact outer N 0 d none none co (by omega) (fun _ _ _ => rfl) hC (fun a ha => absurd ha (by omega)) (fun a _ => rfl)
theorem c_giveAnswer {P n k : Nat} {y : Int32} (k1 : kd 1 = some (.inl 5)) (a3 : r 1 3 = some 3) (kG : kd 3 = some (.inl 0)) (rG0 : r 3 0 = some 4) (rG1 : r 3 1 = some 5) (k4 : kd 4 = some (.inr (.inl (.boolean, 60)))) (k5 : kd 5 = some (.inr (.inl (.int, 60)))) (hm : ms kd r P) {c : Nat} (hc : d P 3 = nI c) (hk : k < c) (h60 : c ≤ 60) (hn : d 3 2 = nI n) (hno : d 4 k = 0 ∨ d 5 k = d (P + 29) k) : Cl X kX5_giveAnswer [.inr (some 1), .inr (some P), .inl (nI k), .inl y] (K, z, kd, d, r) (fun rv M' => rv = some (.inl (d (P + 29) k)) ∧ M' = (K, z, kd, hu (hu (hu d 4 k 1) 5 k (d (P + 29) k)) 3 2 (nI (n + 1)), r)) := by
  obtain ⟨m0, m1, m2, m3, m4, m5, msc, m7⟩ := hm
  refine h_ofWp oX5_giveAnswer (by decide) (Nat.le_of_ble_eq_true rfl) ?_
  refine wp_iload_n rfl rfl ?_
  refine wp_if_lt (tgt := 12) rfl (by decide) ?_ ?_
  · intro h
    exact absurd h (nI_pos (by omega))
  · intro _
    refine wp_iload_n rfl rfl ?_
    refine wp_aload_n rfl rfl ?_
    refine st_getI rfl fX5_195 rfl (by assumption) (hc) ?_
    refine wp_icmp_lt (tgt := 14) rfl (by decide) ?_ ?_
    · intro _
      refine wp_aload_n rfl rfl ?_
      refine st_getR rfl fX5_198 rfl (by assumption) (by assumption) ?_
      refine wp_iload_n rfl rfl ?_
      refine st_iald rfl (by assumption) rfl ((by omega : k < 60)) (by first | decide | omega) rfl ?_
      refine wp_istore rfl (by decide) ?_
      refine wp_aload_n rfl rfl ?_
      refine st_getR rfl fX5_20 rfl (by assumption) (by assumption) ?_
      refine wp_iload_n rfl rfl ?_
      refine wp_iload rfl rfl ?_
      refine wp_V2 rfl mX5_giveAnswer_205 (kG) (Nat.le_of_ble_eq_true rfl) (c_add kG rG0 rG1 k4 k5 (by omega) (by omega) hn hno) ?_
      rintro _ _ ⟨rfl, rfl⟩
      refine wp_iload rfl rfl ?_
      refine wp_ireturn rfl .int rfl rfl ?_
      exact ⟨rfl, rfl⟩
    · intro h
      exact absurd (nI_lt hk (by omega)) h
theorem c_giveNone {P : Nat} {x y : Int32} (hm : kd P = some (.inl 1)) {c : Nat} (hc : d P 3 = nI c) (h60 : c ≤ 60) (hx : x < 0 ∨ nI c ≤ x) : Cl X kX5_giveAnswer [.inr (some 1), .inr (some P), .inl x, .inl y] (K, z, kd, d, r) (fun rv M' => rv = some (.inl y) ∧ M' = (K, z, kd, d, r)) := by
  refine h_ofWp oX5_giveAnswer (by decide) (Nat.le_of_ble_eq_true rfl) ?_
  refine wp_iload_n rfl rfl ?_
  refine wp_if_lt (tgt := 12) rfl (by decide) ?_ ?_
  · intro _
    refine wp_iload_n rfl rfl ?_
    refine wp_ireturn rfl .int rfl rfl (⟨rfl, rfl⟩)
  · intro h1
    refine wp_iload_n rfl rfl ?_
    refine wp_aload_n rfl rfl ?_
    refine st_getI rfl fX5_195 rfl (by assumption) (hc) ?_
    refine wp_icmp_lt (tgt := 14) rfl (by decide) ?_ ?_
    · intro h
      rcases hx with hx | hx
      · exact absurd hx h1
      · rw [i_le] at hx
        rw [i_lt] at h
        omega
    · intro _
      refine wp_iload_n rfl rfl ?_
      refine wp_ireturn rfl .int rfl rfl (⟨rfl, rfl⟩)
theorem i_xor {x y : Int32} (hy : 0 ≤ y.toInt) : (x ^^^ y) < 0 ↔ x < 0 := by
  have key : ∀ w : Int32, w < 0 ↔ w.toBitVec.msb = true := fun w => by
    rw [i_lt, BitVec.msb_eq_toInt, decide_eq_true_iff, show (0 : Int32).toInt = 0 by decide]
    rfl
  rw [key, key, Int32.toBitVec_xor, BitVec.msb_xor]
  have : y.toBitVec.msb = false := by
    rw [BitVec.msb_eq_toInt, decide_eq_false_iff_not]
    show ¬ y.toInt < 0
    omega
  rw [this, Bool.xor_false]
/-- the least view above v that m leads -/
def nxV (N m v : Nat) : Nat := v + 1 + (m + (N - 1) * (v + 1)) % N
theorem c_floorMod {x : Int32} (hN : N = 3 ∨ N = 5) (h1 : -1000000000 < x.toInt) (h2 : x.toInt < 1000000000) : Cl X kJ9_floorMod_7cf53 [.inl x, .inl (nI N)] (K, z, kd, d, r) (fun rv M' => M' = (K, z, kd, d, r) ∧ ∃ v, rv = some (.inl v) ∧ v.toInt = x.toInt % (N : Int)) := by
  have eN : (nI N).toInt = N := i_nI (by omega)
  have hrem := i_rem (x := x) (y := nI N) (by rw [eN]; omega) h1 h2
  rw [eN] at hrem
  have hN0 : ¬ nI N = 0 := nI_ne0 (by omega) (by omega)
  refine h_ofWp oJ9_floorMod_7cf53 (by decide +kernel) (Nat.le_of_ble_eq_true rfl) ?_
  have hneg : x.toInt < 0 → x.toInt.tmod N = -((-x.toInt) % (N : Int)) := fun h => by
    rw [← Int.tmod_eq_emod_of_nonneg (show 0 ≤ -x.toInt by omega), Int.neg_tmod, Int.neg_neg]
  have hpos : 0 ≤ x.toInt → x.toInt.tmod N = x.toInt % (N : Int) := fun h => Int.tmod_eq_emod_of_nonneg h
  have z0 : (0 : Int32).toInt = 0 := by decide
  refine wp_iload_n rfl rfl ?_
  refine wp_iload_n rfl rfl ?_
  refine wp_irem rfl (hN0) ?_
  refine wp_istore_n rfl (by decide) ?_
  refine wp_iload_n rfl rfl ?_
  refine wp_iload_n rfl rfl ?_
  refine wp_ixor rfl ?_
  refine wp_if_ge (tgt := 18) rfl (by decide) ?_ ?_
  · intro h7
    refine wp_iload_n rfl rfl ?_
    refine wp_ireturn rfl .int rfl rfl ?_
    refine ⟨rfl, _, rfl, ?_⟩
    have hx : 0 ≤ x.toInt := by
      by_cases hc : x < 0
      · have := (i_xor (x := x) (y := nI N) (by rw [eN]; omega)).mpr hc
        rw [i_lt] at this
        rw [i_le] at h7
        omega
      · rw [i_lt, z0] at hc
        omega
    rw [hrem, hpos hx]
  · intro h7
    have hx : x.toInt < 0 := by
      have h8 : (x ^^^ nI N) < 0 := by
        rw [i_le] at h7
        rw [i_lt]
        omega
      have := (i_xor (x := x) (y := nI N) (by rw [eN]; omega)).mp h8
      rw [i_lt, z0] at this
      exact this
    refine wp_iload_n rfl rfl ?_
    refine wp_if_eq (tgt := 18) rfl (by decide) ?_ ?_
    · intro h11
      refine wp_iload_n rfl rfl ?_
      refine wp_ireturn rfl .int rfl rfl ?_
      refine ⟨rfl, _, rfl, ?_⟩
      have h12 : (x - x / nI N * nI N).toInt = 0 := by rw [h11]; exact z0
      rw [h12]
      rw [hrem, hneg hx] at h12
      rcases hN with rfl | rfl <;> omega
    · intro h11
      refine wp_iload_n rfl rfl ?_
      refine wp_iload_n rfl rfl ?_
      refine wp_iadd rfl ?_
      refine wp_ireturn rfl .int rfl rfl ?_
      refine ⟨rfl, _, rfl, ?_⟩
      have h12 : ¬ (x - x / nI N * nI N).toInt = 0 := fun e => h11 (Int32.toInt_inj.mp (by rw [e, z0]))
      have hb : -(N : Int) < (x - x / nI N * nI N).toInt ∧ (x - x / nI N * nI N).toInt ≤ 0 := by
        rw [hrem, hneg hx]
        rcases hN with rfl | rfl <;> omega
      rw [i_add (by rw [eN]; omega) (by rw [eN]; omega), eN]
      rw [hrem, hneg hx] at h12 ⊢
      rcases hN with rfl | rfl <;> omega
theorem c_nextView (hS : Sh N kd r) (hd : d 1 0 = nI N) (hm : m < N) {v : Nat} (hv : d (8 + 30 * m) 4 = nI v) (h6 : v < 1000000) : Cl X kX5_nextViewLedBy [.inr (some 1), .inl (nI m)] (K, z, kd, d, r) (fun rv M' => rv = some (.inl (nI (nxV N m v))) ∧ M' = (K, z, kd, d, r)) := by
  obtain ⟨hN, k1, a1, a2, a3, k2, k3, b0, b1, k4, k5, k6, hmm⟩ := id hS
  obtain ⟨rm, mm⟩ := hmm m hm
  have km := mm.1
  have hx : (nI m - (nI v + 1)).toInt = (m : Int) - (v + 1) := by
    rw [nI_1]
    have := i_sub (a := nI m) (b := nI (v + 1)) (by rw [i_nI (by omega), i_nI (by omega)]; omega) (by rw [i_nI (by omega), i_nI (by omega)]; omega)
    rw [this, i_nI (by omega), i_nI (by omega)]
    omega
  refine h_ofWp oX5_nextViewLedBy (by decide) (Nat.le_of_ble_eq_true rfl) ?_
  refine wp_aload_n rfl rfl ?_
  refine st_getR rfl fX5_26 rfl (by assumption) (by assumption) ?_
  refine wp_iload_n rfl rfl ?_
  refine st_aald (t0 := 2) rfl (by assumption) rfl rfl (hm) (by first | decide | omega) (rm) ?_
  refine st_getI rfl fX5_56 rfl (by assumption) (hv) ?_
  refine wp_iconst (v := 1) rfl (by decide) ?_
  refine wp_iadd rfl ?_
  refine wp_istore_n rfl (by decide) ?_
  refine wp_iload_n rfl rfl ?_
  refine wp_iload_n rfl rfl ?_
  refine wp_iload_n rfl rfl ?_
  refine wp_isub rfl ?_
  refine wp_aload_n rfl rfl ?_
  refine st_getI rfl fX5_7 rfl (by assumption) (hd) ?_
  refine wp_S2 rfl mX5_nextViewLedBy_164 (Nat.le_of_ble_eq_true rfl) (c_floorMod hN (by rw [hx]; omega) (by rw [hx]; omega)) ?_
  rintro _ _ ⟨rfl, w, rfl, hw⟩
  refine wp_iadd rfl ?_
  refine wp_ireturn rfl .int rfl rfl ?_
  refine ⟨?_, rfl⟩
  rw [hx] at hw
  have e : w = nI ((m + (N - 1) * (v + 1)) % N) := by
    refine Int32.toInt_inj.mp ?_
    have hl : (m + (N - 1) * (v + 1)) % N < N := Nat.mod_lt _ (by omega)
    rw [hw, i_nI (by omega)]
    rcases hN with rfl | rfl <;> omega
  rw [e, nI_1, nI_add]
  rfl
end CARRY
