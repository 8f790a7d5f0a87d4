/-! THE CLASS: change, agree -/
/-- of the class's memory nothing else has changed -/
def cFr (N : Nat) (d d' : Nat → Nat → Int32) : Prop := ∀ q j, ¬ (q = 1 ∧ (j = 4 ∨ j = 5)) → (∀ i, i < N → ¬ (q = 8 + 30 * i ∧ 3 ≤ j ∧ j ≤ 7) ∧ ¬ (10 + 30 * i ≤ q ∧ q ≤ 37 + 30 * i)) → d' q j = d q j
def rFc (N : Nat) (r r' : Nat → Nat → Option Nat) : Prop := ∀ q j, (∀ i, i < N → q ≠ 8 + 30 * i + 1) → r' q j = r q j
/-- the answers given, in the class -/
def gC (N : Nat) (d : Nat → Nat → Int32) (A : PS) (an : Nat) : Prop := d 3 2 = nI an ∧ d 3 3 = 0 ∧ ∀ k, k < 60 → ¬ d 4 k = 0 → ∃ i, i < N ∧ k < pd A i ∧ d 5 k = anS (pg A i) k
theorem an_st {g g' : Nat → Nat → Int32} {n k : Nat} (h : ∀ k, k < n → g' k = g k) (hk : k < n) : anS g' k = anS g k := anS_eq (n := n) (fun k hk j _ => by rw [h k hk]) hk
theorem rn_st {g g' : Nat → Nat → Int32} {n : Nat} (h : ∀ k, k < n → g' k = g k) : rnS g' n = rnS g n := rnS_eq (n := n) (fun k hk j _ => by rw [h k hk]) n (Nat.le_refl _)
theorem an_agree {N : Nat} {A : PS} (hI : Inv N A) {a b k : Nat} (ha : a < N) (hb : b < N) (hka : k < pd A a) (hkb : k < pd A b) : anS (pg A a) k = anS (pg A b) k :=
  an_st (n := k + 1) (fun k' hk' => iv_agree hI ha hb (by omega) (by omega)) (by omega)
theorem gC_st {N : Nat} {d d' : Nat → Nat → Int32} {A A' : PS} {an : Nat} (h : gC N d A an) (hst : St N A A') (e3 : d' 3 = d 3) (e4 : d' 4 = d 4) (e5 : d' 5 = d 5) : gC N d' A' an := by
  obtain ⟨a, b, c⟩ := h
  refine ⟨by rw [e3]; exact a, by rw [e3]; exact b, fun k hk hg => ?_⟩
  rw [e4] at hg
  obtain ⟨i, hi, h1, h2⟩ := c k hk hg
  refine ⟨i, hi, Nat.lt_of_lt_of_le h1 (hst i hi).1, ?_⟩
  rw [e5, h2]
  exact (an_st (hst i hi).2 h1).symm
theorem cS_st {N : Nat} {d : Nat → Nat → Int32} {A A' : PS} (h : cS N d (pg A) (pd A)) (hst : St N A A') : cS N d (pg A') (pd A) := by
  intro i hi
  obtain ⟨a, b, c⟩ := h i hi
  refine ⟨a, ?_, fun k hk => ?_⟩
  · rw [rn_st (hst i hi).2]; exact b
  · rw [an_st (hst i hi).2 hk]; exact c k hk
theorem cS_keep {N : Nat} {d d' : Nat → Nat → Int32} {g : Nat → Nat → Nat → Int32} {co : Nat → Nat} (h : cS N d g co) (h3 : ∀ i, i < N → d' (8 + 30 * i) 3 = d (8 + 30 * i) 3) (hq : ∀ i, i < N → ∀ q, 10 + 30 * i ≤ q → q ≤ 37 + 30 * i → d' q = d q) : cS N d' g co := by
  intro i hi
  obtain ⟨a, b, c⟩ := h i hi
  refine ⟨by rw [h3 i hi]; exact a, sQd_keep b (fun q h1 h2 => hq i hi q (by omega) (by omega)), fun k hk => ?_⟩
  rw [hq i hi _ (by omega) (by omega)]
  exact c k hk
theorem cW_self {N : Nat} {kd : Nat → Option hK} {d0 d : Nat → Nat → Int32} {r0 r : Nat → Nat → Option Nat} {A : PS} (h : cW N kd d0 r0 A d r) : cW N kd d r A d r := ⟨fun _ _ _ _ => rfl, fun _ _ _ => rfl, h.2.2⟩
theorem cW_row {N : Nat} {kd : Nat → Option hK} {d0 d : Nat → Nat → Int32} {r0 r : Nat → Nat → Option Nat} {A : PS} (h : cW N kd d0 r0 A d r) {q : Nat} (h1 : q ≠ 1) (h2 : ∀ i, i < N → q ≠ 8 + 30 * i) : d q = d0 q := by
  funext j
  exact h.1 q j (by omega) (fun i hi hc => h2 i hi hc.1)
/-- the numbers stay while orders are carried out -/
theorem cW_carry {N : Nat} {kd : Nat → Option hK} {d d' : Nat → Nat → Int32} {r : Nat → Nat → Option Nat} {A : PS} (hS : Sh N kd r) (h : cW N kd d r A d r) (hf : ∀ q j, (∀ i, i < N → ¬ (q = 8 + 30 * i ∧ j = 3) ∧ ¬ (10 + 30 * i ≤ q ∧ q ≤ 37 + 30 * i)) → d' q j = d q j) : cW N kd d' r A d' r := by
  obtain ⟨h1, h2, h3, h4, h5, h6, h7, h8⟩ := h
  refine ⟨fun _ _ _ _ => rfl, fun _ _ _ => rfl, h3, fun i hi => ?_, (hf _ _ (fun i _ => by omega)).trans h5, (hf _ _ (fun i _ => by omega)).trans h6, h7, h8⟩
  obtain ⟨a4, a5, a6, a7, b1, b2, b3, b4, b5⟩ := h4 i hi
  refine ⟨(hf _ _ (fun a _ => by omega)).trans a4, (hf _ _ (fun a _ => by omega)).trans a5, (hf _ _ (fun a _ => by omega)).trans a6, (hf _ _ (fun a _ => by omega)).trans a7, b1, b2, b3, b4, fun k hk x hx => ?_⟩
  have ho := (h3 i hi k (by omega)).2
  show d' (op r (8 + 30 * i) k) x = _
  rw [hf _ _ (fun a ha => ⟨fun hc => ord_ne hS ha ho (by omega), fun hc => ord_ne hS ha ho (by omega)⟩)]
  exact b5 k hk x hx
theorem pAn_bl {rch : Nat → Prop} {m : Nat} : ∀ (n j : Nat) (A : PS), pB (pAn rch m n j A) + pL (pAn rch m n j A) = pB A + pL A := by
  intro n
  induction n with
  | zero => intro j A; rfl
  | succ n ih =>
    intro j A
    rcases Classical.em (rch j) with hrj | hrj
    · rw [show pAn rch m (n + 1) j A = _ from cIf_t hrj]
      by_cases h0 : pL A = 0
      · rw [if_pos h0]
      · rw [if_neg h0, ih]
        split
        · show pB A + 1 + (pL A - 1) = pB A + pL A
          omega
        · show pB A + 1 + (pL A - 1) = pB A + pL A
          omega
    · rw [show pAn rch m (n + 1) j A = _ from cIf_f hrj]
      exact ih _ _
section CCHG
variable {X : hX} {K z : Nat} {kd : Nat → Option hK} {d d0 : Nat → Nat → Int32} {r r0 : Nat → Nat → Option Nat} {N m j : Nat} {A : PS} {x y w : Int32}
theorem c_changeB (hS : Sh N kd r) (hd : d 1 0 = nI N) (hno : ¬ (inR x 0 N ∧ inR y 0 41)) : Cl X kX5_change [.inr (some 1), .inl x, .inl y] (K, z, kd, d, r) (fun rv M' => rv = some (.inl (-1)) ∧ M' = (K, z, kd, d, r)) := by
  obtain ⟨hN, k1, a1, a2, a3, k2, k3, b0, b1, k4, k5, k6, hmm⟩ := id hS
  refine h_ofWp oX5_change (by decide) (Nat.le_of_ble_eq_true rfl) ?_
  refine wp_aload_n rfl rfl ?_
  refine wp_iload_n rfl rfl ?_
  refine wp_V1 rfl mX5_change_38 (k1) (Nat.le_of_ble_eq_true rfl) (c_isMasterP hS hd) ?_
  rintro _ _ ⟨rfl, ⟨i, hi, rfl, rfl⟩ | ⟨h, rfl⟩⟩
  · refine wp_if_eq (tgt := 16) rfl (by decide) ?_ ?_
    · intro hc
      exact absurd hc (by decide)
    · intro _
      refine wp_aload_n rfl rfl ?_
      refine wp_iload_n rfl rfl ?_
      refine wp_V1 rfl mX5_change_46 (k1) (Nat.le_of_ble_eq_true rfl) (c_areMessages) ?_
      rintro _ _ ⟨v, rfl, rfl, hv⟩
      rcases rg_1 hv with ⟨rfl, hy⟩ | ⟨rfl, hy⟩
      · exact absurd ⟨⟨i, Nat.zero_le _, hi, rfl⟩, hy⟩ hno
      · refine wp_if_ne (tgt := 18) rfl (by decide) ?_ ?_
        · intro hc
          exact absurd rfl hc
        · intro _
          refine wp_iconst (v := -1) rfl (by decide) ?_
          refine wp_ireturn rfl .int rfl rfl ?_
          exact ⟨rfl, rfl⟩
  · refine wp_if_eq (tgt := 16) rfl (by decide) ?_ ?_
    · intro _
      refine wp_iconst (v := -1) rfl (by decide) ?_
      refine wp_ireturn rfl .int rfl rfl ?_
      exact ⟨rfl, rfl⟩
    · intro hc
      exact absurd rfl hc
theorem c_changeD {c : Nat} (hS : Sh N kd r) (hd : d 1 0 = nI N) (hm : m < N) (hc : c ≤ 40) (hup : d (8 + 30 * m) 8 = 0) : Cl X kX5_change [.inr (some 1), .inl (nI m), .inl (nI c)] (K, z, kd, d, r) (fun rv M' => rv = some (.inl (-3)) ∧ M' = (K, z, kd, d, r)) := by
  obtain ⟨hN, k1, a1, a2, a3, k2, k3, b0, b1, k4, k5, k6, hmm⟩ := id hS
  obtain ⟨rm, mm⟩ := hmm m hm
  have km := mm.1
  refine h_ofWp oX5_change (by decide) (Nat.le_of_ble_eq_true rfl) ?_
  refine wp_aload_n rfl rfl ?_
  refine wp_iload_n rfl rfl ?_
  refine wp_V1 rfl mX5_change_38 (k1) (Nat.le_of_ble_eq_true rfl) (c_isMasterP hS hd) ?_
  rintro _ _ ⟨rfl, ⟨i, hi, e, rfl⟩ | ⟨h, rfl⟩⟩
  · refine wp_if_eq (tgt := 16) rfl (by decide) ?_ ?_
    · intro hc
      exact absurd hc (by decide)
    · intro _
      refine wp_aload_n rfl rfl ?_
      refine wp_iload_n rfl rfl ?_
      refine wp_V1 rfl mX5_change_46 (k1) (Nat.le_of_ble_eq_true rfl) (c_areMessages) ?_
      rintro _ _ ⟨v, rfl, rfl, hv⟩
      rcases rg_1 hv with ⟨rfl, hy⟩ | ⟨rfl, hy⟩
      · refine wp_if_ne (tgt := 18) rfl (by decide) ?_ ?_
        · intro _
          refine wp_aload_n rfl rfl ?_
          refine st_getR rfl fX5_26 rfl (by assumption) (by assumption) ?_
          refine wp_iload_n rfl rfl ?_
          refine st_aald (t0 := 2) rfl (by assumption) rfl rfl (hm) (by first | decide | omega) (rm) ?_
          refine wp_astore_n rfl (by decide) ?_
          refine wp_aload_n rfl rfl ?_
          refine st_getI rfl fX5_42 rfl (km) (hup) ?_
          refine wp_if_ne (tgt := 35) rfl (by decide) ?_ ?_
          · intro hc
            exact absurd rfl hc
          · intro _
            refine wp_bipush (v := -3) rfl (by decide) ?_
            refine wp_ireturn rfl .int rfl rfl ?_
            exact ⟨rfl, rfl⟩
        · intro hc
          exact absurd hc (by decide)
      · exact absurd ⟨c, Nat.zero_le _, by omega, rfl⟩ hy
  · exact absurd rfl (h m hm)
theorem c_change {c : Nat} (hS : Sh N kd r) (hd : d 1 0 = nI N) (hW : cW N kd d r A d r) (hC : cS N d (pg A) (pd A)) (hI : Inv N A) (hm : m < N) (hc : c ≤ 40) (hup : ¬ d (8 + 30 * m) 8 = 0) (hb : pB A + 40 < 1000000) (hv : ∀ i, i < N → pv A i < 900000) : Cl X kX5_change [.inr (some 1), .inl (nI m), .inl (nI c)] (K, z, kd, d, r) (fun rv M' => rv = some (.inl (pCh N (rcB N d m) m c A).2) ∧ ∃ d' r', M' = (K, z, kd, d', r') ∧ cFr N d d' ∧ rFc N r r' ∧ cW N kd d' r' (pCh N (rcB N d m) m c A).1 d' r' ∧ cS N d' (pg (pCh N (rcB N d m) m c A).1) (pd (pCh N (rcB N d m) m c A).1)) := by
  obtain ⟨hN, k1, a1, a2, a3, k2, k3, b0, b1, k4, k5, k6, hmm⟩ := id hS
  obtain ⟨rm, mm⟩ := hmm m hm
  have km := mm.1
  obtain ⟨w1, w2, w3, w4, w5, w6, w7, w8⟩ := id hW
  obtain ⟨v4, v5, v6, v7, l60, e60, vb, nb, hlg⟩ := w4 m hm
  obtain ⟨i1, i2, i3, i4, i5, i6⟩ := inv_change (c := c) (rch := rcB N d m) (W := 899999) hN hI hm (fun i h e => h.1 e.symm) (fun i hi => by have := hv i hi; omega)
  have hVb : nxV N m (pv A m) < 1000000 := by
    have := nxV_le (N := N) (m := m) (v := pv A m) hN
    have := hv m hm
    omega
  refine h_ofWp oX5_change (by decide) (Nat.le_of_ble_eq_true rfl) ?_
  have hAA : pCh N (rcB N d m) m c A = if (pGl N (rcB N d m) m (pVw (pMs A c) m (nxV N m (pv A m)))).2 = true then (pAn (rcB N d m) m N 0 (pGl N (rcB N d m) m (pVw (pMs A c) m (nxV N m (pv A m)))).1, nI (nxV N m (pv A m))) else ((pGl N (rcB N d m) m (pVw (pMs A c) m (nxV N m (pv A m)))).1, -2) := rfl
  generalize hA0 : pVw (pMs A c) m (nxV N m (pv A m)) = A0 at hAA i5 i6
  generalize hAr : pCh N (rcB N d m) m c A = R at *
  have hW0 : cW N kd d r A0 (hu (hu d 1 4 (nI c)) (8 + 30 * m) 4 (nI (nxV N m (pv A m)))) r := by
    have hW00 : cW N kd d r (pMs A c) (hu d 1 4 (nI c)) r := by
      refine ⟨fun q i a b => by rw [hu_n (by omega)], fun q i _ => rfl, w3, fun i hi => ?_, hu_s, (hu_n (by omega)).trans w6, hc, w8⟩
      obtain ⟨b4, b5, b6, b7, c1, c2, c3, c4, c5⟩ := w4 i hi
      refine ⟨(hu_n (by omega)).trans b4, (hu_n (by omega)).trans b5, (hu_n (by omega)).trans b6, (hu_n (by omega)).trans b7, c1, c2, c3, c4, fun k hk x hx => ?_⟩
      have ho := (w3 i hi k (by have : k < pl A i := hk; omega)).2
      show hu d 1 4 (nI c) (op r (8 + 30 * i) k) x = _
      rw [hu_n (fun q => by rw [q.1, k1] at ho; cases ho)]
      exact c5 k hk x hx
    rw [← hA0]
    refine cW_set hS hW00 hm hu_s ?_ ?_ ?_ (fun q i hq => hu_n (by omega)) (fun q i _ => rfl) (w3 m hm) l60 e60 hVb nb (fun k hk i hi => ?_)
    · rw [hu_n (by omega), hu_n (by omega)]; exact v5
    · rw [hu_n (by omega), hu_n (by omega)]; exact v6
    · rw [hu_n (by omega), hu_n (by omega)]; exact v7
    · have hk' : k < pl A m := hk
      have ho := (w3 m hm k (by omega)).2
      show hu (hu d 1 4 (nI c)) (8 + 30 * m) 4 _ (op r (8 + 30 * m) k) i = _
      rw [hu_n (fun q => by rw [q.1, km] at ho; cases ho), hu_n (fun q => by rw [q.1, k1] at ho; cases ho)]
      exact hlg k hk' i hi
  have hbl : pB A0 + pL A0 < 1000000 := by
    rw [← hA0]
    show pB A + c < 1000000
    omega
  refine wp_aload_n rfl rfl ?_
  refine wp_iload_n rfl rfl ?_
  refine wp_V1 rfl mX5_change_38 (k1) (Nat.le_of_ble_eq_true rfl) (c_isMasterP hS hd) ?_
  rintro _ _ ⟨rfl, ⟨i, hi, e, rfl⟩ | ⟨h, rfl⟩⟩
  · refine wp_if_eq (tgt := 16) rfl (by decide) ?_ ?_
    · intro hc
      exact absurd hc (by decide)
    · intro _
      refine wp_aload_n rfl rfl ?_
      refine wp_iload_n rfl rfl ?_
      refine wp_V1 rfl mX5_change_46 (k1) (Nat.le_of_ble_eq_true rfl) (c_areMessages) ?_
      rintro _ _ ⟨v, rfl, rfl, hv⟩
      rcases rg_1 hv with ⟨rfl, hy⟩ | ⟨rfl, hy⟩
      · refine wp_if_ne (tgt := 18) rfl (by decide) ?_ ?_
        · intro _
          refine wp_aload_n rfl rfl ?_
          refine st_getR rfl fX5_26 rfl (by assumption) (by assumption) ?_
          refine wp_iload_n rfl rfl ?_
          refine st_aald (t0 := 2) rfl (by assumption) rfl rfl (hm) (by first | decide | omega) (rm) ?_
          refine wp_astore_n rfl (by decide) ?_
          refine wp_aload_n rfl rfl ?_
          refine st_getI rfl fX5_42 rfl (km) rfl ?_
          refine wp_if_ne (tgt := 35) rfl (by decide) ?_ ?_
          · intro _
            refine wp_aload_n rfl rfl ?_
            refine wp_iload_n rfl rfl ?_
            refine st_putI rfl fX5_49 rfl rfl ⟨rfl, rfl⟩ (by assumption) ?_
            refine wp_aload_n rfl rfl ?_
            refine wp_aload_n rfl rfl ?_
            refine wp_iload_n rfl rfl ?_
            refine wp_V1 rfl mX5_change_52 (k1) (Nat.le_of_ble_eq_true rfl) (c_nextView hS ((hu_n (by omega)).trans hd) hm ((hu_n (by omega)).trans v4) (by omega)) ?_
            rintro _ _ ⟨rfl, rfl⟩
            refine st_putI rfl fX5_56 rfl rfl ⟨rfl, rfl⟩ (by assumption) ?_
            refine wp_aload_n rfl rfl ?_
            refine wp_iload_n rfl rfl ?_
            refine wp_V1 rfl mX5_change_59 (k1) (Nat.le_of_ble_eq_true rfl) (c_gather hS hd hm A0 _ _ hW0 hbl) ?_
            rintro _ _ ⟨d1, r1, rfl, hW1, rfl⟩
            have e3 : ∀ i, i < N → d1 (8 + 30 * i) 3 = d (8 + 30 * i) 3 := fun i hi => hW1.1 _ _ (by omega) (fun a _ => by omega)
            have eq : ∀ i, i < N → ∀ q, 10 + 30 * i ≤ q → q ≤ 37 + 30 * i → d1 q = d q := fun i hi q h1 h2 => cW_row hW1 (by omega) (fun a _ => by omega)
            by_cases hg : (pGl N (rcB N d m) m A0).2 = true
            · rw [if_pos hg] at hAA
              rw [if_pos hg]
              have hbl1 : pB (pGl N (rcB N d m) m A0).1 + pL (pGl N (rcB N d m) m A0).1 < 1000000 := by
                have h9 := pAn_bl (rch := rcB N d m) (m := m) N 0 (pGl N (rcB N d m) m A0).1
                rw [hAA] at i4
                dsimp only at i4
                omega
              refine wp_if_ne (tgt := 60) rfl (by decide) ?_ ?_
              · intro _
                refine wp_aload_n rfl rfl ?_
                refine wp_iload_n rfl rfl ?_
                refine wp_V1 rfl mX5_change_62 (k1) (Nat.le_of_ble_eq_true rfl) (c_announce hS hd hm _ _ _ hW1 hbl1) ?_
                rintro _ _ ⟨rfl, d2, r2, rfl, hW2⟩
                have eR : pAn (rcB N d m) m N 0 (pGl N (rcB N d m) m A0).1 = R.1 := by rw [hAA]
                rw [eR] at hW2
                have e32 : ∀ i, i < N → d2 (8 + 30 * i) 3 = d (8 + 30 * i) 3 := fun i hi => hW2.1 _ _ (by omega) (fun a _ => by omega)
                have eq2 : ∀ i, i < N → ∀ q, 10 + 30 * i ≤ q → q ≤ 37 + 30 * i → d2 q = d q := fun i hi q h1 h2 => cW_row hW2 (by omega) (fun a _ => by omega)
                have hS2 : Sh N kd r2 := Sh_r hS hW2.2.1
                refine wp_aload_n rfl rfl ?_
                refine wp_V0 rfl mX5_change_66 (k1) (Nat.le_of_ble_eq_true rfl) (c_carry hS2 ((hW2.1 _ _ (by omega) (fun a _ => by omega)).trans hd) (cW_self hW2) (cS_keep (cS_st hC i2) e32 eq2) (fun i hi => ⟨(i2 i hi).1, (i1.1 i hi).2.1⟩)) ?_
                rintro _ _ ⟨rfl, d3, rfl, hf3, hC3⟩
                have hW3 := cW_carry hS2 (cW_self hW2) hf3
                have e4 : d3 (8 + 30 * m) 4 = nI (pv R.1 m) := (hW3.2.2.2.1 m hm).1
                refine wp_aload_n rfl rfl ?_
                refine st_getI rfl fX5_56 rfl (km) (e4) ?_
                refine wp_ireturn rfl .int rfl rfl ?_
                rw [i5 hg]
                refine ⟨by rw [hAA], d3, r2, rfl, fun q j h1 h2 => ?_, fun q j h1 => hW2.2.1 q j h1, hW3, hC3⟩
                rw [hf3 q j (fun i hi => ⟨fun hc => (h2 i hi).1 (by omega), (h2 i hi).2⟩)]
                exact hW2.1 q j h1 (fun i hi hc => (h2 i hi).1 (by omega))
              · intro hc
                exact absurd hc (by decide)
            · rw [if_neg hg] at hAA
              rw [if_neg hg]
              refine wp_if_ne (tgt := 60) rfl (by decide) ?_ ?_
              · intro hc
                exact absurd rfl hc
              · intro _
                refine wp_bipush (v := -2) rfl (by decide) ?_
                refine wp_ireturn rfl .int rfl rfl ?_
                have sm := i6 hg
                rw [hAA] at sm ⊢
                dsimp only at sm ⊢
                refine ⟨rfl, d1, r1, rfl, fun q j h1 h2 => hW1.1 q j h1 (fun i hi hc => (h2 i hi).1 (by omega)), fun q j h1 => hW1.2.1 q j h1, cW_self hW1, ?_⟩
                rw [sm.2.2.1, sm.2.2.2]
                exact cS_keep hC e3 eq
          · intro h
            exact absurd h hup
        · intro hc
          exact absurd hc (by decide)
      · exact absurd ⟨c, Nat.zero_le _, by omega, rfl⟩ hy
  · exact absurd rfl (h m hm)
/-- the class's scheduler is as it can be -/
theorem sQ_ok {S T : Sch} (hq : Sq S T) (hT : sWf T) : sOk S ∧ (∀ w, w < S.1 → 0 ≤ sFree (S.2.2.2.1 w) S.2.2.2.2.1 (nI w) S.2.1) ∧ ∀ u, u < 4 → sUsed S.2.2.2.2.1 (nI u) S.2.1 ≤ S.2.2.2.2.2 u := by
  obtain ⟨b1, b2, b3, b4, b5, b6⟩ := hq
  have h20 := hT.1.2.1
  refine ⟨⟨by rw [b1]; exact hT.1.1, by rw [b2]; exact h20, fun t ht => ?_⟩, fun w hw => ?_, fun u hu4 => ?_⟩
  · rw [b2] at ht
    rw [b5 t (by omega)]
    exact hT.1.2.2 t ht
  · rw [b1] at hw
    rw [b2, b4, q_free b5 _ h20, i_le]
    exact (sWf_free hT w hw).1
  · rw [b2, b6, q_used b5 _ h20]
    exact sWf_bd hT u hu4
theorem c_agree {an : Nat} (hS : Sh N kd r) (hd : d 1 0 = nI N) (hW : cW N kd d r A d r) (hC : cS N d (pg A) (pd A)) (hI : Inv N A) (hG : gC N d A an) : Cl X kX5_agree [.inr (some 1)] (K, z, kd, d, r) (fun rv M' => rv = some (.inl 1) ∧ M' = (K, z, kd, d, r)) := by
  obtain ⟨hN, k1, a1, a2, a3, k2, k3, b0, b1, k4, k5, k6, hmm⟩ := id hS
  obtain ⟨w1, w2, w3, w4, w5, w6, w7, w8⟩ := id hW
  refine h_ofWp oX5_agree (by decide) (Nat.le_of_ble_eq_true rfl) ?_
  have before : ∀ i, i < N → Cl X kX5_agreesWithThoseBefore [.inr (some 1), .inl (nI i)] (K, z, kd, d, r) (fun rv M' => rv = some (.inl 1) ∧ M' = (K, z, kd, d, r)) := by
    intro i hi
    refine h_ofWp oX5_agreesWithThoseBefore (by decide) (Nat.le_of_ble_eq_true rfl) ?_
    have loop : ∀ n a, a + n = i → Wp X kX5_agreesWithThoseBefore K z 2 [some (.inr (some 1)), some (.inl (nI i)), some (.inl (nI a))] [] (K, z, kd, d, r) (fun rv M' => rv = some (.inl 1) ∧ M' = (K, z, kd, d, r)) := by
      intro n
      induction n with
      | zero =>
        intro a ha
        refine wp_iload_n rfl rfl ?_
        refine wp_iload_n rfl rfl ?_
        refine wp_icmp_ge (tgt := 33) rfl (by decide) ?_ ?_
        · intro _
          refine wp_iconst (v := 1) rfl (by decide) ?_
          refine wp_ireturn rfl .boolean rfl rfl ?_
          exact ⟨rfl, rfl⟩
        · intro h
          exact absurd (nI_le (by omega) (by omega)) h
      | succ n ih =>
        intro a ha
        have haN : a < N := by omega
        obtain ⟨ra, ma⟩ := hmm a haN
        obtain ⟨ri, mi⟩ := hmm i hi
        obtain ⟨c4, c5, c6, c7, cl, ce, -, -, cg⟩ := w4 a haN
        obtain ⟨e4, e5, e6, e7, el, ee, -, -, eg⟩ := w4 i hi
        have da := (hI.1 a haN).2.1
        have di := (hI.1 i hi).2.1
        refine wp_iload_n rfl rfl ?_
        refine wp_iload_n rfl rfl ?_
        refine wp_icmp_ge (tgt := 33) rfl (by decide) ?_ ?_
        · intro h
          exact absurd h (nI_ge (by omega) (by omega))
        · intro _
          refine wp_aload_n rfl rfl ?_
          refine st_getR rfl fX5_26 rfl (by assumption) (by assumption) ?_
          refine wp_iload_n rfl rfl ?_
          refine st_aald (t0 := 2) rfl (by assumption) rfl rfl (haN) (by first | decide | omega) (ra) ?_
          refine wp_aload_n rfl rfl ?_
          refine st_getR rfl fX5_26 rfl (by assumption) (by assumption) ?_
          refine wp_iload_n rfl rfl ?_
          refine st_aald (t0 := 2) rfl (by assumption) rfl rfl (hi) (by first | decide | omega) (ri) ?_
          refine wp_V1 rfl mX5_agreesWithThoseBefore_209 (ma.1) (Nat.le_of_ble_eq_true rfl) (c_hasSame ma mi (w3 a haN) (w3 i hi) c6 e6 c7 e7 cl el da di (fun k h1 h2 j hj => by rw [cg k (by omega) j hj, eg k (by omega) j hj, iv_agree hI haN hi h1 h2])) ?_
          rintro _ _ ⟨rfl, rfl⟩
          refine wp_if_ne (tgt := 27) rfl (by decide) ?_ ?_
          · intro _
            refine wp_inc rfl rfl (by decide) ?_
            refine wp_goto (tgt := 2) rfl (by decide) ?_
            exact ih (a + 1) (by omega)
          · intro h
            exact absurd h (by decide)
    refine wp_iconst (v := 0) rfl (by decide) ?_
    refine wp_istore_n rfl (by decide) ?_
    exact loop i 0 (by omega)
  have loop : ∀ n i L, i + n = N → L < N → (∀ a, a < i → pd A a ≤ pd A L) → Wp X kX5_agree K z 9 [some (.inr (some 1)), some (.inr (some (8 + 30 * L))), some (.inl (nI i))] [] (K, z, kd, d, r) (fun rv M' => rv = some (.inl 1) ∧ M' = (K, z, kd, d, r)) := by
    intro n
    induction n with
    | zero =>
      intro i L hi hL hmx
      obtain ⟨rL, mL⟩ := hmm L hL
      obtain ⟨c3, -, can⟩ := hC L hL
      have eL := (w4 L hL).2.2.2.2.2.1
      refine wp_iload_n rfl rfl ?_
      refine wp_aload_n rfl rfl ?_
      refine st_getI rfl fX5_7 rfl (by assumption) (hd) ?_
      refine wp_icmp_ge (tgt := 71) rfl (by decide) ?_ ?_
      · intro _
        refine wp_aload_n rfl rfl ?_
        refine st_getR rfl fX5_20 rfl (by assumption) (by assumption) ?_
        refine wp_aload_n rfl rfl ?_
        refine wp_V1 rfl mX5_agree_150 (k3) (Nat.le_of_ble_eq_true rfl) (c_standBy (G := 3) k3 b0 b1 k4 k5 mL hG.2.1 c3 eL (fun k hk hg => by obtain ⟨i', hi', h1, h2⟩ := hG.2.2 k hk hg; have h3 := hmx i' (by omega); exact ⟨by omega, by rw [can k (by omega)]; exact h2.trans (an_agree hI hi' hL h1 (by omega))⟩)) ?_
        rintro _ _ ⟨rfl, rfl⟩
        refine wp_ireturn rfl .boolean rfl rfl ?_
        exact ⟨rfl, rfl⟩
      · intro h
        exact absurd (nI_le (by omega) (by omega)) h
    | succ n ih =>
      intro i L hi hL hmx
      have hiN : i < N := by omega
      obtain ⟨rL, mL⟩ := hmm L hL
      obtain ⟨ri, mi⟩ := hmm i hiN
      obtain ⟨m0, m1, m2, m3, m4, m5, msc, m7⟩ := id mi
      obtain ⟨c3, ⟨S, hR, hq⟩, can⟩ := hC i hiN
      obtain ⟨o1, o2, o3⟩ := sQ_ok hq (rnS_wf (pg A i) (pd A i))
      have d7 := (w4 i hiN).2.2.2.1
      have D7 := (w4 L hL).2.2.2.1
      have e60 := (w4 i hiN).2.2.2.2.2.1
      have E60 := (w4 L hL).2.2.2.2.2.1
      have kL := mL.1
      refine wp_iload_n rfl rfl ?_
      refine wp_aload_n rfl rfl ?_
      refine st_getI rfl fX5_7 rfl (by assumption) (hd) ?_
      refine wp_icmp_ge (tgt := 71) rfl (by decide) ?_ ?_
      · intro h
        exact absurd h (nI_ge hiN (by omega))
      · intro _
        refine wp_aload_n rfl rfl ?_
        refine st_getR rfl fX5_26 rfl (by assumption) (by assumption) ?_
        refine wp_iload_n rfl rfl ?_
        refine st_aald (t0 := 2) rfl (by assumption) rfl rfl (hiN) (by first | decide | omega) (ri) ?_
        refine st_getR rfl fX5_112 rfl (by assumption) (by assumption) ?_
        refine wp_V0 rfl mX5_agree_144 (msc.1) (Nat.le_of_ble_eq_true rfl) (c_keepsBounds msc hR o1 o2 o3) ?_
        rintro _ _ ⟨rfl, rfl⟩
        refine wp_if_eq (tgt := 40) rfl (by decide) ?_ ?_
        · intro h
          exact absurd h (by decide)
        · intro _
          refine wp_aload_n rfl rfl ?_
          refine wp_iload_n rfl rfl ?_
          refine wp_V1 rfl mX5_agree_147 (k1) (Nat.le_of_ble_eq_true rfl) (before i hiN) ?_
          rintro _ _ ⟨rfl, rfl⟩
          refine wp_if_ne (tgt := 42) rfl (by decide) ?_ ?_
          · intro _
            refine wp_aload_n rfl rfl ?_
            refine st_getR rfl fX5_26 rfl (by assumption) (by assumption) ?_
            refine wp_iload_n rfl rfl ?_
            refine st_aald (t0 := 2) rfl (by assumption) rfl rfl (hiN) (by first | decide | omega) (ri) ?_
            refine st_getI rfl fX5_102 rfl (m0) (d7) ?_
            refine wp_aload_n rfl rfl ?_
            refine st_getI rfl fX5_102 rfl (kL) (D7) ?_
            refine wp_icmp_le (tgt := 65) rfl (by decide) ?_ ?_
            · intro h55
              have := (nI_leI (by omega) (by omega)).mp h55
              refine wp_inc rfl rfl (by decide) ?_
              refine wp_goto (tgt := 9) rfl (by decide) ?_
              refine ih (i + 1) L (by omega) hL (fun a ha => ?_)
              by_cases e : a = i
              · subst e; omega
              · exact hmx a (by omega)
            · intro h55
              have hlt : pd A L < pd A i := by
                rcases Nat.lt_or_ge (pd A L) (pd A i) with q | q
                · exact q
                · exact absurd (nI_le q (by omega)) h55
              refine wp_aload_n rfl rfl ?_
              refine st_getR rfl fX5_26 rfl (by assumption) (by assumption) ?_
              refine wp_iload_n rfl rfl ?_
              refine st_aald (t0 := 2) rfl (by assumption) rfl rfl (hiN) (by first | decide | omega) (ri) ?_
              refine wp_astore_n rfl (by decide) ?_
              refine wp_inc rfl rfl (by decide) ?_
              refine wp_goto (tgt := 9) rfl (by decide) ?_
              refine ih (i + 1) i (by omega) hiN (fun a ha => ?_)
              by_cases e : a = i
              · subst e; exact Nat.le_refl _
              · have := hmx a (by omega)
                omega
          · intro h
            exact absurd h (by decide)
  have r0 := (hmm 0 (by omega)).1
  refine wp_aload_n rfl rfl ?_
  refine st_getR rfl fX5_26 rfl (by assumption) (by assumption) ?_
  refine wp_iconst (v := 0) rfl (by decide) ?_
  refine st_aald (t0 := 2) rfl (by assumption) rfl rfl ((by omega : 0 < N)) (by first | decide | omega) (r0) ?_
  refine wp_astore_n rfl (by decide) ?_
  refine wp_iconst (v := 0) rfl (by decide) ?_
  refine wp_istore_n rfl (by decide) ?_
  exact loop N 0 0 (by omega) (by omega) (fun a ha => absurd ha (by omega))
end CCHG
