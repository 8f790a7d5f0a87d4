/-! CLASS AND REFERENCE SIDE BY SIDE -/
/-- the answers given, in the reference -/
def gR (N Y : Nat) (d : Nat → Nat → Int32) (A : PS) (an : Nat) : Prop := d Y 11 = nI an ∧ ∀ g, g < an → ∃ i k, i < N ∧ k < pd A i ∧ d (Y + 8) (3 * g) = pg A i k 0 ∧ d (Y + 8) (3 * g + 1) = pg A i k 1 ∧ d (Y + 8) (3 * g + 2) = anS (pg A i) k
/-- links and masters, up and down -/
def lk (N Y : Nat) (d : Nat → Nat → Int32) : Prop := (∀ i, i < N → (d (8 + 30 * i) 8 = 0 ↔ ¬ d (Y + 5) i = 0)) ∧ ∀ a b, a < N → b < N → (d 2 (a * N + b) = 0 ↔ d (Y + 6) (5 * a + b) = 0)
def Fu (N q n K z : Nat) (xs : Nat → Int32) (kd : Nat → Option hK) (d : Nat → Nat → Int32) (r : Nat → Nat → Option Nat) (A : PS) (an : Nat) : Prop :=
  Sh N kd r ∧ rs kd r (8 + 30 * N) ∧ d 1 0 = nI N ∧ d (8 + 30 * N) 1 = nI N ∧ cW N kd d r A d r ∧ rW N (8 + 30 * N) d A d ∧ cS N d (pg A) (pd A) ∧ gC N d A an ∧ gR N (8 + 30 * N) d A an ∧ lk N (8 + 30 * N) d ∧ Inv N A ∧
  ((∀ i, i < N → pv A i ≤ 5 * q) ∧ pB A ≤ 40 * q ∧ an ≤ q ∧ 8 + 30 * N + 20 ≤ K ∧ K ≤ 8 + 30 * N + 20 + q ∧ z ≤ 100000 + 7 * q) ∧ (∀ p, K ≤ p → kd p = none) ∧ kd 0 = some (.inr (.inl (.int, n))) ∧ ∀ j, d 0 j = xs j
def FuE (N q n : Nat) (xs : Nat → Int32) (M : hM) : Prop := ∃ A an, Fu N q n (mK M) (mz M) xs (mk M) (md M) (mr M) A an
def Vs (n N : Nat) (xs : Nat → Int32) (M : hM) : Prop := mk M 0 = some (.inr (.inl (.int, n))) ∧ (∀ j, md M 0 j = xs j) ∧ mk M 1 = some (.inl 5) ∧ mk M (8 + 30 * N) = some (.inl 6)
/-- a call of the class, then the same of the reference: one answer -/
def Op (X : hX) (k5 k6 : hMI) (as : List hV) (N q n : Nat) (xs : Nat → Int32) (M : hM) : Prop := ∃ Q1, Cl X k5 (.inr (some 1) :: as) M Q1 ∧ ∀ rv1 M1, Q1 rv1 M1 → Vs n N xs M1 ∧ ∃ v, rv1 = some (.inl v) ∧ Cl X k6 (.inr (some (8 + 30 * N)) :: as) M1 (fun rv2 M2 => rv2 = some (.inl v) ∧ FuE N (q + 1) n xs M2)
section BOTH
variable {X : hX} {N q n K z an : Nat} {xs : Nat → Int32} {kd : Nat → Option hK} {d d' d0 : Nat → Nat → Int32} {r r' : Nat → Nat → Option Nat} {A : PS} {x y w : Int32}
theorem ref_ne {Y o : Nat} (hS : rs kd r Y) (ho : kd o = some (.inl 2)) : ¬ (Y ≤ o ∧ o ≤ Y + 19) := by
  obtain ⟨k0, r2, r3, r4, r5, r6, r7, r8, r12, r13, r15, r17, r18, r19, r20, r21, r22, r23, r24, r25, k1, k2, k3, k4, k5, k6, k7, k8, k9, k10, k11, k12, k13, k14, k15, k16, k17, k18, k19, hY⟩ := hS
  rintro ⟨h1, h2⟩
  rcases (show o = Y ∨ o = Y + 1 ∨ o = Y + 2 ∨ o = Y + 3 ∨ o = Y + 4 ∨ o = Y + 5 ∨ o = Y + 6 ∨ o = Y + 7 ∨ o = Y + 8 ∨ o = Y + 9 ∨ o = Y + 10 ∨ o = Y + 11 ∨ o = Y + 12 ∨ o = Y + 13 ∨ o = Y + 14 ∨ o = Y + 15 ∨ o = Y + 16 ∨ o = Y + 17 ∨ o = Y + 18 ∨ o = Y + 19 by omega) with rfl | rfl | rfl | rfl | rfl | rfl | rfl | rfl | rfl | rfl | rfl | rfl | rfl | rfl | rfl | rfl | rfl | rfl | rfl | rfl
  · rw [k0] at ho; cases ho
  · rw [k1] at ho; cases ho
  · rw [k2] at ho; cases ho
  · rw [k3] at ho; cases ho
  · rw [k4] at ho; cases ho
  · rw [k5] at ho; cases ho
  · rw [k6] at ho; cases ho
  · rw [k7] at ho; cases ho
  · rw [k8] at ho; cases ho
  · rw [k9] at ho; cases ho
  · rw [k10] at ho; cases ho
  · rw [k11] at ho; cases ho
  · rw [k12] at ho; cases ho
  · rw [k13] at ho; cases ho
  · rw [k14] at ho; cases ho
  · rw [k15] at ho; cases ho
  · rw [k16] at ho; cases ho
  · rw [k17] at ho; cases ho
  · rw [k18] at ho; cases ho
  · rw [k19] at ho; cases ho
/-- the class's numbers stay while the reference, or given answers, change; nor do links and masters' standing matter -/
theorem cW_out (hS : Sh N kd r) (hR : rs kd r (8 + 30 * N)) (h : cW N kd d r A d r) (hd : ∀ q j, ¬ (2 ≤ q ∧ q ≤ 5) → (q < 8 + 30 * N ∨ 8 + 30 * N + 19 < q) → (∀ i, i < N → ¬ (q = 8 + 30 * i ∧ j = 8)) → d' q j = d q j) : cW N kd d' r A d' r := by
  obtain ⟨h1, h2, h3, h4, h5, h6, h7, h8⟩ := h
  have hE : ∀ i j, i < N → j < 8 → d' (8 + 30 * i) j = d (8 + 30 * i) j := fun i j hi hj => hd _ _ (by omega) (by omega) (fun a _ => by omega)
  refine ⟨fun _ _ _ _ => rfl, fun _ _ _ => rfl, h3, fun i hi => ?_, (hd 1 4 (by omega) (by omega) (fun a _ => by omega)).trans h5, (hd 1 5 (by omega) (by omega) (fun a _ => by omega)).trans h6, h7, h8⟩
  obtain ⟨a4, a5, a6, a7, b1, b2, b3, b4, b5⟩ := h4 i hi
  refine ⟨(hE i 4 hi (by omega)).trans a4, (hE i 5 hi (by omega)).trans a5, (hE i 6 hi (by omega)).trans a6, (hE i 7 hi (by omega)).trans a7, b1, b2, b3, b4, fun k hk x hx => ?_⟩
  have ho := (h3 i hi k (by omega)).2
  have n1 := ref_ne hR ho
  have n2 : ∀ q v, kd q = some v → v ≠ .inl 2 → op r (8 + 30 * i) k ≠ q := fun q v e1 e2 e3 => by
    rw [e3, e1] at ho
    exact e2 (Option.some.inj ho)
  have m2 := n2 2 _ hS.2.2.2.2.2.1 (by intro q; cases q)
  have m3 := n2 3 _ hS.2.2.2.2.2.2.1 (by intro q; cases q)
  have m4 := n2 4 _ hS.2.2.2.2.2.2.2.2.2.1 (by intro q; cases q)
  have m5 := n2 5 _ hS.2.2.2.2.2.2.2.2.2.2.1 (by intro q; cases q)
  show d' (op r (8 + 30 * i) k) x = _
  rw [hd _ _ (by omega) (by omega) (fun a ha hc => ord_ne hS ha ho (by omega))]
  exact b5 k hk x hx
theorem rW_keep {Y : Nat} (h : rW N Y d A d) (h9 : d' Y 9 = d Y 9) (h10 : d' Y 10 = d Y 10) (hq : ∀ q j, Y + 1 ≤ q → q ≤ Y + 7 → q ≠ Y + 5 → q ≠ Y + 6 → d' q j = d q j) : rW N Y d' A d' := by
  obtain ⟨a1, a2, a3, a4, a5, a6⟩ := h
  refine ⟨fun _ _ _ _ _ _ _ _ => rfl, fun i hi => ?_, h9.trans a3, h10.trans a4, a5, a6⟩
  obtain ⟨b1, b2, b3, b4, c1, c2, c3, c4, c5⟩ := a2 i hi
  exact ⟨(hq _ _ (by omega) (by omega) (by omega) (by omega)).trans b1, (hq _ _ (by omega) (by omega) (by omega) (by omega)).trans b2, (hq _ _ (by omega) (by omega) (by omega) (by omega)).trans b3, (hq _ _ (by omega) (by omega) (by omega) (by omega)).trans b4, c1, c2, c3, c4, fun k hk j hj => (hq _ _ (by omega) (by omega) (by omega) (by omega)).trans (c5 k hk j hj)⟩
theorem rW_self {Y : Nat} (h : rW N Y d0 A d) : rW N Y d A d := ⟨fun _ _ _ _ _ _ _ _ => rfl, h.2⟩
theorem gR_st {Y : Nat} {A' : PS} (h : gR N Y d A an) (hst : St N A A') (e1 : d' Y 11 = d Y 11) (e8 : d' (Y + 8) = d (Y + 8)) : gR N Y d' A' an := by
  refine ⟨e1.trans h.1, fun g hg => ?_⟩
  obtain ⟨i, k, hi, hk, a, b, c⟩ := h.2 g hg
  have hp := (hst i hi).2
  refine ⟨i, k, hi, Nat.lt_of_lt_of_le hk (hst i hi).1, ?_, ?_, ?_⟩
  · rw [e8, hp k hk]; exact a
  · rw [e8, hp k hk]; exact b
  · rw [e8, an_st hp hk]; exact c
theorem lk_keep {Y : Nat} (h : lk N Y d) (h8 : ∀ i, i < N → d' (8 + 30 * i) 8 = d (8 + 30 * i) 8) (h2 : ∀ j, d' 2 j = d 2 j) (h5 : ∀ j, d' (Y + 5) j = d (Y + 5) j) (h6 : ∀ j, d' (Y + 6) j = d (Y + 6) j) : lk N Y d' := by
  refine ⟨fun i hi => ?_, fun a b ha hb => ?_⟩
  · rw [h8 i hi, h5]; exact h.1 i hi
  · rw [h2, h6]; exact h.2 a b ha hb
theorem lk_rch {m : Nat} {Y : Nat} (h : lk N Y d) (h5 : ∀ j, d' (Y + 5) j = d (Y + 5) j) (h6 : ∀ j, d' (Y + 6) j = d (Y + 6) j) (hm : m < N) : ∀ j, j < N → (rcB N d m j ↔ rcR d' Y m j) := by
  intro j hj
  have e1 := h.1 m hm
  have e2 := h.1 j hj
  have e3 := h.2 m j hm hj
  unfold rcB rcR
  rw [h5, h5, h6]
  constructor
  · rintro ⟨a, b, c, e⟩
    exact ⟨a, Classical.not_not.mp (fun q => b (e1.mpr q)), Classical.not_not.mp (fun q => c (e2.mpr q)), e3.mp e⟩
  · rintro ⟨a, b, c, e⟩
    exact ⟨a, fun q => e1.mp q b, fun q => e2.mp q c, e3.mpr e⟩
/-- the reference has looked at its log anew -/
theorem Fu_fr (h : Fu N q n K z xs kd d r A an) (hf : rFr (8 + 30 * N) d d') : Fu N (q + 1) n K z xs kd d' r A an := by
  obtain ⟨h1, h2, h3, h4, h5, h6, h7, h8, h9, h10, h11, ⟨b1, b2, b3, b4, b5, b6⟩, h13, h14, h15⟩ := h
  have hN := h1.1
  have lo : ∀ q j, q < 8 + 30 * N → d' q j = d q j := fun q j hq => hf _ _ (by omega) (by omega)
  refine ⟨h1, h2, (lo _ _ (by omega)).trans h3, (hf _ _ (by omega) (by omega)).trans h4, cW_out h1 h2 h5 (fun q j a b c => hf _ _ (by omega) (by omega)), rW_keep h6 (hf _ _ (by omega) (by omega)) (hf _ _ (by omega) (by omega)) (fun q j a b c e => hf _ _ (by omega) (by omega)), cS_keep h7 (fun i hi => lo _ _ (by omega)) (fun i hi q a b => funext (fun j => lo _ _ (by omega))), gC_st h8 (St.refl _ _) (funext (fun j => lo _ _ (by omega))) (funext (fun j => lo _ _ (by omega))) (funext (fun j => lo _ _ (by omega))), gR_st h9 (St.refl _ _) (hf _ _ (by omega) (by omega)) (funext (fun j => hf _ _ (by omega) (by omega))), lk_keep h10 (fun i hi => lo _ _ (by omega)) (fun j => lo _ _ (by omega)) (fun j => hf _ _ (by omega) (by omega)) (fun j => hf _ _ (by omega) (by omega)), h11, ⟨fun i hi => by have := b1 i hi; omega, by omega, by omega, b4, by omega, by omega⟩, h13, h14, fun j => (lo _ _ (by omega)).trans (h15 j)⟩
theorem Fu_q (h : Fu N q n K z xs kd d r A an) : Fu N (q + 1) n K z xs kd d r A an := Fu_fr h (rFr_refl _ _)
theorem Fu_vs (h : Fu N q n K z xs kd d r A an) : Vs n N xs (K, z, kd, d, r) := ⟨h.2.2.2.2.2.2.2.2.2.2.2.2.2.1, h.2.2.2.2.2.2.2.2.2.2.2.2.2.2, h.1.2.1, h.2.1.1⟩
theorem mI_two {P P' : Nat → Prop} {Q Q' R : Prop} {M : Nat} (hM : M < 1000) (h1 : mI M x P Q) (h2 : mI M x P' Q') (hp : ∀ i, i < M → P i → P' i → R) (hq : Q → Q' → R) : R := by
  rcases h1 with ⟨i, hi, e, hP⟩ | ⟨h, hQ⟩
  · rcases h2 with ⟨i', hi', e', hP'⟩ | ⟨h', hQ'⟩
    · have : i = i' := (nI_eq (by omega) (by omega)).mp (e.symm.trans e')
      subst this
      exact hp i hi hP hP'
    · exact absurd e (h' i hi)
  · rcases h2 with ⟨i', hi', e', hP'⟩ | ⟨h', hQ'⟩
    · exact absurd e' (h i' hi')
    · exact hq hQ hQ'
theorem mI_val {rv : Option hV} {P : Nat → Prop} {Q : Prop} {M : Nat} (h : mI M x P Q) (hp : ∀ i, i < M → P i → ∃ v, rv = some (.inl v)) (hq : Q → ∃ v, rv = some (.inl v)) : ∃ v, rv = some (.inl v) := by
  rcases h with ⟨i, hi, e, hP⟩ | ⟨h, hQ⟩
  · exact hp i hi hP
  · exact hq hQ
theorem op_told (h : Fu N q n K z xs kd d r A an) : Op X kX5_told kX6_told [.inl x, .inl y] N q n xs (K, z, kd, d, r) := by
  have hV := Fu_vs h
  obtain ⟨h1, h2, h3, h4, h5, h6, h7, h8, h9, h10, h11, -⟩ := id h
  have hN := h1.1
  refine ⟨_, c_told h1 h3, ?_⟩
  rintro rv1 M1 ⟨rfl, hm⟩
  obtain ⟨v, hv⟩ := mI_val hm (fun i _ e => ⟨_, e⟩) (fun e => ⟨_, e⟩)
  refine ⟨hV, v, hv, (r_told h2 h4 (by omega)).mono ?_⟩
  rintro rv2 M2 ⟨rfl, hm2⟩
  refine ⟨?_, A, an, Fu_q h⟩
  rw [← hv]
  refine mI_two (by omega) hm hm2 (fun i hi e1 e2 => ?_) (fun e1 e2 => e2.trans e1.symm)
  obtain ⟨a4, a5, a6, a7, -⟩ := h5.2.2.2.1 i hi
  obtain ⟨c4, c5, c6, c7, -⟩ := h6.2.1 i hi
  rw [e1, e2, a4, a5, a6, a7, c4, c5, c6, c7]
  have hl := h10.1 i hi
  by_cases e : d (8 + 30 * N + 5) i = 0
  · rw [if_pos e]
    have : ¬ d (8 + 30 * i) 8 = 0 := fun q => hl.mp q e
    simp only [vTold, if_neg this, if_neg (show ¬ (1 : Int32) = 0 by decide)]
  · rw [if_neg e]
    have := hl.mpr e
    simp only [vTold, if_pos this, if_true]
theorem v7_eq {f g : Nat → Int32} (h : ∀ j, j < 7 → f j = g j) : v7 f x = v7 g x := by
  simp only [v7, h 0 (by omega), h 1 (by omega), h 2 (by omega), h 3 (by omega), h 4 (by omega), h 5 (by omega), h 6 (by omega)]
theorem op_log (h : Fu N q n K z xs kd d r A an) : Op X kX5_log kX6_log [.inl x, .inl y, .inl w] N q n xs (K, z, kd, d, r) := by
  have hV := Fu_vs h
  obtain ⟨h1, h2, h3, h4, h5, h6, h7, h8, h9, h10, h11, -⟩ := id h
  have hN := h1.1
  refine ⟨_, c_log (ln := pl A) h1 h3 h5.2.2.1 (fun i hi => ⟨(h5.2.2.2.1 i hi).2.2.1, (h5.2.2.2.1 i hi).2.2.2.2.1⟩), ?_⟩
  rintro rv1 M1 ⟨rfl, hm⟩
  obtain ⟨v, hv⟩ := mI_val hm (fun i _ e => mI_val e (fun k _ e => ⟨_, e⟩) (fun e => ⟨_, e⟩)) (fun e => ⟨_, e⟩)
  refine ⟨hV, v, hv, (r_log (ln := pl A) h2 h4 (by omega) (fun i hi => ⟨(h6.2.1 i hi).2.2.1, (h6.2.1 i hi).2.2.2.2.1⟩)).mono ?_⟩
  rintro rv2 M2 ⟨rfl, hm2⟩
  refine ⟨?_, A, an, Fu_q h⟩
  rw [← hv]
  refine mI_two (by omega) hm hm2 (fun i hi e1 e2 => ?_) (fun e1 e2 => e2.trans e1.symm)
  have l60 := (h5.2.2.2.1 i hi).2.2.2.2.1
  refine mI_two (by omega) e1 e2 (fun k hk f1 f2 => ?_) (fun e1 e2 => e2.trans e1.symm)
  rw [f1, f2, v7_eq (fun j hj => ?_)]
  rw [(h5.2.2.2.1 i hi).2.2.2.2.2.2.2.2 k hk j hj, (h6.2.1 i hi).2.2.2.2.2.2.2.2 k hk j hj]
/-- what the class's scheduler at i is -/
theorem cS_at (h : cS N d (pg A) (pd A)) {i : Nat} (hi : i < N) : d (8 + 30 * i + 2) 7 = nI (rnS (pg A i) (pd A i)).2.1 ∧ d (8 + 30 * i + 2) 6 = nI (rnS (pg A i) (pd A i)).1 ∧ d (8 + 30 * i + 2 + 3) = (rnS (pg A i) (pd A i)).2.2.2.1 ∧ gQ (tk d (8 + 30 * i + 2)) (rnS (pg A i) (pd A i)).2.2.2.2.1 := by
  obtain ⟨-, ⟨S, ⟨a1, a2, a3, a4, a5, a6⟩, b1, b2, b3, b4, b5, b6⟩, -⟩ := h i hi
  refine ⟨by rw [← b2]; exact a2, by rw [← b1]; exact a1, by rw [← b4]; exact a4, ?_⟩
  rw [a5]
  exact b5
theorem ref_log (h : rW N (8 + 30 * N) d A d) (hI : Inv N A) : ∀ i, i < N → d (8 + 30 * N + 4) i = nI (pd A i) ∧ pd A i ≤ 60 ∧ ∀ k, k < pd A i → ∀ j, j < 7 → d (8 + 30 * N + 7) (420 * i + 7 * k + j) = pg A i k j := by
  intro i hi
  obtain ⟨c4, c5, c6, c7, cl, ce, -, -, cg⟩ := h.2.1 i hi
  have := (hI.1 i hi).2.1
  exact ⟨c7, ce, fun k hk j hj => cg k (by omega) j hj⟩
theorem op_task (h : Fu N q n K z xs kd d r A an) : Op X kX5_task kX6_task [.inl x, .inl y, .inl w] N q n xs (K, z, kd, d, r) := by
  have hV := Fu_vs h
  obtain ⟨h1, h2, h3, h4, h5, h6, h7, h8, h9, h10, h11, -⟩ := id h
  have hN := h1.1
  refine ⟨_, c_task (tc := fun i => (rnS (pg A i) (pd A i)).2.1) h1 h3 (fun i hi => ⟨(cS_at h7 hi).1, (rnS_ok _ _).2.1⟩), ?_⟩
  rintro rv1 M1 ⟨rfl, hm⟩
  obtain ⟨v, hv⟩ := mI_val hm (fun i _ e => mI_val e (fun k _ e => ⟨_, e⟩) (fun e => ⟨_, e⟩)) (fun e => ⟨_, e⟩)
  refine ⟨hV, v, hv, (r_task (dn := pd A) (G := pg A) h2 h4 (by omega) (ref_log h6 h11)).mono ?_⟩
  rintro rv2 M2 ⟨d2, rfl, hf, hm2⟩
  refine ⟨?_, A, an, Fu_fr h hf⟩
  rw [← hv]
  refine mI_two (by omega) hm hm2 (fun i hi e1 e2 => ?_) (fun e1 e2 => e2.trans e1.symm)
  have h20 := (rnS_ok (pg A i) (pd A i)).2.1
  refine mI_two (by omega) e1 e2 (fun k hk f1 f2 => ?_) (fun e1 e2 => e2.trans e1.symm)
  rw [f1, f2, (cS_at h7 hi).2.2.2 k (by omega)]
theorem op_worker (h : Fu N q n K z xs kd d r A an) : Op X kX5_worker kX6_worker [.inl x, .inl y, .inl w] N q n xs (K, z, kd, d, r) := by
  have hV := Fu_vs h
  obtain ⟨h1, h2, h3, h4, h5, h6, h7, h8, h9, h10, h11, -⟩ := id h
  have hN := h1.1
  refine ⟨_, c_worker (tc := fun i => (rnS (pg A i) (pd A i)).2.1) (wc := fun i => (rnS (pg A i) (pd A i)).1) h1 h3 (fun i hi => ⟨(cS_at h7 hi).1, (rnS_ok _ _).2.1, (cS_at h7 hi).2.1, (rnS_ok _ _).1⟩), ?_⟩
  rintro rv1 M1 ⟨rfl, hm⟩
  obtain ⟨v, hv⟩ := mI_val hm (fun i _ e => mI_val e (fun k _ e => ⟨_, e⟩) (fun e => ⟨_, e⟩)) (fun e => ⟨_, e⟩)
  refine ⟨hV, v, hv, (r_worker (dn := pd A) (G := pg A) h2 h4 (by omega) (ref_log h6 h11)).mono ?_⟩
  rintro rv2 M2 ⟨d2, rfl, hf, hm2⟩
  refine ⟨?_, A, an, Fu_fr h hf⟩
  rw [← hv]
  refine mI_two (by omega) hm hm2 (fun i hi e1 e2 => ?_) (fun e1 e2 => e2.trans e1.symm)
  have h20 := (rnS_ok (pg A i) (pd A i)).2.1
  have h6' := (rnS_ok (pg A i) (pd A i)).1
  refine mI_two (by omega) e1 e2 (fun k hk f1 f2 => ?_) (fun e1 e2 => e2.trans e1.symm)
  rw [f1, f2, (cS_at h7 hi).2.2.1, q_free (cS_at h7 hi).2.2.2 _ h20]
theorem op_used (h : Fu N q n K z xs kd d r A an) : Op X kX5_used kX6_used [.inl x, .inl y] N q n xs (K, z, kd, d, r) := by
  have hV := Fu_vs h
  obtain ⟨h1, h2, h3, h4, h5, h6, h7, h8, h9, h10, h11, -⟩ := id h
  have hN := h1.1
  refine ⟨_, c_used (tc := fun i => (rnS (pg A i) (pd A i)).2.1) h1 h3 (fun i hi => ⟨(cS_at h7 hi).1, (rnS_ok _ _).2.1⟩), ?_⟩
  rintro rv1 M1 ⟨rfl, hm⟩
  obtain ⟨v, hv⟩ := mI_val hm (fun i _ e => mI_val e (fun k _ e => ⟨_, e⟩) (fun e => ⟨_, e⟩)) (fun e => ⟨_, e⟩)
  refine ⟨hV, v, hv, (r_used (dn := pd A) (G := pg A) h2 h4 (by omega) (ref_log h6 h11)).mono ?_⟩
  rintro rv2 M2 ⟨d2, rfl, hf, hm2⟩
  refine ⟨?_, A, an, Fu_fr h hf⟩
  rw [← hv]
  refine mI_two (by omega) hm hm2 (fun i hi e1 e2 => ?_) (fun e1 e2 => e2.trans e1.symm)
  have h20 := (rnS_ok (pg A i) (pd A i)).2.1
  refine mI_two (by omega) e1 e2 (fun k hk f1 f2 => ?_) (fun e1 e2 => e2.trans e1.symm)
  rw [f1, f2, q_used (cS_at h7 hi).2.2.2 _ h20]
theorem op_count (h : Fu N q n K z xs kd d r A an) : Op X kX5_count kX6_count [.inl x] N q n xs (K, z, kd, d, r) := by
  have hV := Fu_vs h
  obtain ⟨h1, h2, h3, h4, h5, h6, h7, h8, h9, h10, h11, -⟩ := id h
  have hN := h1.1
  refine ⟨_, c_count (f := pv A) h1 h3 (fun i hi => ⟨(h5.2.2.2.1 i hi).1, (h5.2.2.2.1 i hi).2.2.2.2.2.2.1⟩), ?_⟩
  rintro rv1 M1 ⟨rfl, rfl⟩
  refine ⟨hV, _, rfl, (r_count (f := pv A) h2 h4 (by omega) (fun i hi => ⟨(h6.2.1 i hi).1, (h6.2.1 i hi).2.2.2.2.2.2.1⟩)).mono ?_⟩
  rintro rv2 M2 ⟨rfl, rfl⟩
  refine ⟨?_, A, an, Fu_q h⟩
  rw [h5.2.2.2.2.2.1, h6.2.2.2.1, h8.1, h9.1]
/-- an answer given belongs to one order alone -/
theorem given_one (hI : Inv N A) {i i' k k' : Nat} (hi : i < N) (hi' : i' < N) (hk : k < pd A i) (hk' : k' < pd A i') (e0 : pg A i' k' 0 = pg A i k 0) (e1 : pg A i' k' 1 = pg A i k 1) : anS (pg A i') k' = anS (pg A i) k := by
  have U := hI.2.2.2.2.2.2.2
  have d1 := (hI.1 i hi).2.1
  have d2 := (hI.1 i' hi').2.1
  rcases Nat.lt_trichotomy k k' with q | q | q
  · have hg := iv_agree hI hi hi' hk (show k < pd A i' by omega)
    have := U i' hi' k k' q (by omega) (by rw [← hg]; exact e0.symm)
    rw [← hg, e1, i_lt] at this
    omega
  · subst q
    exact an_agree hI hi' hi hk' hk
  · have hg := iv_agree hI hi hi' (show k' < pd A i by omega) hk'
    have := U i hi k' k q (by omega) (by rw [hg]; exact e0)
    rw [hg, e1, i_lt] at this
    omega
theorem op_agree (h : Fu N q n K z xs kd d r A an) (hq : q ≤ 600) : Op X kX5_agree kX6_agree [] N q n xs (K, z, kd, d, r) := by
  have hV := Fu_vs h
  obtain ⟨h1, h2, h3, h4, h5, h6, h7, h8, h9, h10, h11, hb, -⟩ := id h
  have hN := h1.1
  refine ⟨_, c_agree h1 h3 h5 h7 h11 h8, ?_⟩
  rintro rv1 M1 ⟨rfl, rfl⟩
  refine ⟨hV, _, rfl, (r_agree (dn := pd A) (G := pg A) (an := an) h2 h4 hN (ref_log h6 h11) (fun a b ha hb k hka hkb j _ => by rw [iv_agree h11 ha hb hka hkb]) h9.1 (by omega) (fun i hi k hk g hg e0 e1 => ?_)).mono ?_⟩
  · obtain ⟨i', k', hi', hk', f0, f1, f2⟩ := h9.2 g hg
    rw [f2]
    exact given_one h11 hi hi' hk hk' (f0.symm.trans e0) (f1.symm.trans e1)
  · rintro rv2 M2 ⟨rfl, d2, rfl, hf⟩
    exact ⟨rfl, A, an, Fu_fr h hf⟩
theorem op_up (h : Fu N q n K z xs kd d r A an) {v : Int32} (hv01 : v = 0 ∨ v = 1) : Op X kX5_up kX6_up [.inl x, .inl v] N q n xs (K, z, kd, d, r) := by
  have hV := Fu_vs h
  obtain ⟨h1, h2, h3, h4, h5, h6, h7, h8, h9, h10, h11, ⟨b1, b2, b3, b4, b5, b6⟩, h13, h14, h15⟩ := id h
  have hN := h1.1
  refine ⟨_, c_up h1 h3 hv01, ?_⟩
  rintro rv1 M1 (⟨i, hi, rfl, rfl, rfl⟩ | ⟨hno, rfl, rfl⟩)
  · refine ⟨⟨h14, fun j => (hu_n (by omega)).trans (h15 j), h1.2.1, h2.1⟩, _, rfl, (r_up h2 ((hu_n (by omega)).trans h4) (by omega)).mono ?_⟩
    rintro rv2 M2 (⟨i', hi', e, rfl, rfl⟩ | ⟨hno, -⟩)
    · have : i = i' := (nI_eq (by omega) (by omega)).mp e
      subst this
      have fr : ∀ q j, ¬ (q = 8 + 30 * i ∧ j = 8) → q ≠ 8 + 30 * N + 5 → hu (hu d (8 + 30 * i) 8 v) (8 + 30 * N + 5) i (if v = 0 then 1 else 0) q j = d q j := fun q j c1 c2 => by
        rw [hu_n (by omega), hu_n c1]
      refine ⟨rfl, A, an, h1, h2, (fr _ _ (by omega) (by omega)).trans h3, (fr _ _ (by omega) (by omega)).trans h4, cW_out h1 h2 h5 (fun q j c1 c2 c3 => fr q j (c3 i hi) (by omega)), rW_keep h6 (fr (8 + 30 * N) 9 (by omega) (by omega)) (fr (8 + 30 * N) 10 (by omega) (by omega)) (fun q j c1 c2 c3 c4 => fr _ _ (by omega) (by omega)), cS_keep h7 (fun a ha => fr _ _ (by omega) (by omega)) (fun a ha q c1 c2 => funext (fun j => fr _ _ (by omega) (by omega))), gC_st h8 (St.refl _ _) (funext (fun j => fr 3 j (by omega) (by omega))) (funext (fun j => fr 4 j (by omega) (by omega))) (funext (fun j => fr 5 j (by omega) (by omega))), gR_st h9 (St.refl _ _) (fr _ _ (by omega) (by omega)) (funext (fun j => fr _ _ (by omega) (by omega))), ⟨fun a ha => ?_, fun a b ha hb => ?_⟩, h11, ⟨fun i hi => by have := b1 i hi; omega, by omega, by omega, b4, by show K ≤ 8 + 30 * N + 20 + (q + 1); omega, by show z ≤ 100000 + 7 * (q + 1); omega⟩, h13, h14, fun j => (fr _ _ (by omega) (by omega)).trans (h15 j)⟩
      · by_cases ea : a = i
        · subst ea
          show hu (hu d (8 + 30 * a) 8 v) (8 + 30 * N + 5) a _ (8 + 30 * a) 8 = 0 ↔ ¬ hu (hu d (8 + 30 * a) 8 v) (8 + 30 * N + 5) a (if v = 0 then 1 else 0) (8 + 30 * N + 5) a = 0
          rw [hu_n (by omega), hu_s, hu_s]
          rcases hv01 with rfl | rfl
          · rw [if_pos rfl]; decide
          · rw [if_neg (by decide)]; decide
        · show hu (hu d (8 + 30 * i) 8 v) (8 + 30 * N + 5) i _ (8 + 30 * a) 8 = 0 ↔ ¬ hu (hu d (8 + 30 * i) 8 v) (8 + 30 * N + 5) i _ (8 + 30 * N + 5) a = 0
          rw [hu_n (by omega), hu_n (by omega), hu_n (by omega), hu_n (by omega)]
          exact h10.1 a ha
      · show hu (hu d (8 + 30 * i) 8 v) (8 + 30 * N + 5) i (if v = 0 then 1 else 0) 2 (a * N + b) = 0 ↔ hu (hu d (8 + 30 * i) 8 v) (8 + 30 * N + 5) i (if v = 0 then 1 else 0) (8 + 30 * N + 6) (5 * a + b) = 0
        rw [fr _ _ (by omega) (by omega), fr _ _ (by omega) (by omega)]
        exact h10.2 a b ha hb
    · exact absurd rfl (hno i hi)
  · refine ⟨hV, _, rfl, (r_up h2 h4 (by omega)).mono ?_⟩
    rintro rv2 M2 (⟨i', hi', e, -⟩ | ⟨-, rfl, rfl⟩)
    · exact absurd e (hno i' hi')
    · exact ⟨rfl, A, an, Fu_q h⟩
theorem op_link (h : Fu N q n K z xs kd d r A an) {v : Int32} : Op X kX5_link kX6_link [.inl x, .inl y, .inl v] N q n xs (K, z, kd, d, r) := by
  have hV := Fu_vs h
  obtain ⟨h1, h2, h3, h4, h5, h6, h7, h8, h9, h10, h11, ⟨b1, b2, b3, b4, b5, b6⟩, h13, h14, h15⟩ := id h
  have hN := h1.1
  refine ⟨_, c_link h1 h3, ?_⟩
  rintro rv1 M1 (⟨a, b, ha, hb, hab, rfl, rfl, rfl, rfl⟩ | ⟨hno, rfl, rfl⟩)
  · refine ⟨⟨h14, fun j => by
      show hu (hu d 2 (a * N + b) (if v = 0 then 1 else 0)) 2 (b * N + a) (if v = 0 then 1 else 0) 0 j = xs j
      rw [hu_n (by omega), hu_n (by omega)]
      exact h15 j, h1.2.1, h2.1⟩, _, rfl, (r_link h2 ((hu_n (by omega)).trans ((hu_n (by omega)).trans h4)) (by omega)).mono ?_⟩
    rintro rv2 M2 (⟨a', b', ha', hb', hab', ea, eb, rfl, rfl⟩ | ⟨hno, -⟩)
    · have e1 : a = a' := (nI_eq (by omega) (by omega)).mp ea
      have e2 : b = b' := (nI_eq (by omega) (by omega)).mp eb
      subst e1; subst e2
      generalize (if v = 0 then (1 : Int32) else 0) = u
      have fr : ∀ q j, q ≠ 2 → q ≠ 8 + 30 * N + 6 → hu (hu (hu (hu d 2 (a * N + b) u) 2 (b * N + a) u) (8 + 30 * N + 6) (5 * a + b) u) (8 + 30 * N + 6) (5 * b + a) u q j = d q j := fun q j c1 c2 => by
        rw [hu_n (by omega), hu_n (by omega), hu_n (by omega), hu_n (by omega)]
      refine ⟨rfl, A, an, h1, h2, (fr _ _ (by omega) (by omega)).trans h3, (fr _ _ (by omega) (by omega)).trans h4, cW_out h1 h2 h5 (fun q j c1 c2 c3 => fr q j (by omega) (by omega)), rW_keep h6 (fr (8 + 30 * N) 9 (by omega) (by omega)) (fr (8 + 30 * N) 10 (by omega) (by omega)) (fun q j c1 c2 c3 c4 => fr _ _ (by omega) (by omega)), cS_keep h7 (fun a ha => fr _ _ (by omega) (by omega)) (fun a ha q c1 c2 => funext (fun j => fr _ _ (by omega) (by omega))), gC_st h8 (St.refl _ _) (funext (fun j => fr 3 j (by omega) (by omega))) (funext (fun j => fr 4 j (by omega) (by omega))) (funext (fun j => fr 5 j (by omega) (by omega))), gR_st h9 (St.refl _ _) (fr _ _ (by omega) (by omega)) (funext (fun j => fr _ _ (by omega) (by omega))), ⟨fun i hi => ?_, fun s t hs ht => ?_⟩, h11, ⟨fun i hi => by have := b1 i hi; omega, by omega, by omega, b4, by show K ≤ 8 + 30 * N + 20 + (q + 1); omega, by show z ≤ 100000 + 7 * (q + 1); omega⟩, h13, h14, fun j => (fr _ _ (by omega) (by omega)).trans (h15 j)⟩
      · show hu (hu (hu (hu d 2 (a * N + b) u) 2 (b * N + a) u) (8 + 30 * N + 6) (5 * a + b) u) (8 + 30 * N + 6) (5 * b + a) u (8 + 30 * i) 8 = 0 ↔ ¬ hu (hu (hu (hu d 2 (a * N + b) u) 2 (b * N + a) u) (8 + 30 * N + 6) (5 * a + b) u) (8 + 30 * N + 6) (5 * b + a) u (8 + 30 * N + 5) i = 0
        rw [fr _ _ (by omega) (by omega), fr _ _ (by omega) (by omega)]
        exact h10.1 i hi
      · show hu (hu (hu (hu d 2 (a * N + b) u) 2 (b * N + a) u) (8 + 30 * N + 6) (5 * a + b) u) (8 + 30 * N + 6) (5 * b + a) u 2 (s * N + t) = 0 ↔ hu (hu (hu (hu d 2 (a * N + b) u) 2 (b * N + a) u) (8 + 30 * N + 6) (5 * a + b) u) (8 + 30 * N + 6) (5 * b + a) u (8 + 30 * N + 6) (5 * s + t) = 0
        have hold := h10.2 s t hs ht
        rw [hu_n (by omega), hu_n (by omega)]
        by_cases c1 : s = b ∧ t = a
        · obtain ⟨rfl, rfl⟩ := c1
          rw [hu_s, hu_s]
        · have n1 : ¬ (s * N + t = b * N + a) := by rcases hN with rfl | rfl <;> omega
          rw [hu_n (fun q => n1 q.2), hu_n (q := 8 + 30 * N + 6) (by omega)]
          by_cases c2 : s = a ∧ t = b
          · obtain ⟨rfl, rfl⟩ := c2
            rw [hu_s, hu_s]
          · have n2 : ¬ (s * N + t = a * N + b) := by rcases hN with rfl | rfl <;> omega
            rw [hu_n (fun q => n2 q.2), hu_n (q := 8 + 30 * N + 6) (by omega), hu_n (q := 8 + 30 * N + 6) (by omega), hu_n (q := 8 + 30 * N + 6) (by omega)]
            exact hold
    · exact (hno a b ha hb hab rfl rfl).elim
  · refine ⟨hV, _, rfl, (r_link h2 h4 (by omega)).mono ?_⟩
    rintro rv2 M2 (⟨a', b', ha', hb', hab', ea, eb, -⟩ | ⟨-, rfl, rfl⟩)
    · exact absurd (hno a' b' ha' hb' hab' ea eb) id
    · exact ⟨rfl, A, an, Fu_q h⟩
theorem op_change (h : Fu N q n K z xs kd d r A an) (hq : q ≤ 600) : Op X kX5_change kX6_change [.inl x, .inl y] N q n xs (K, z, kd, d, r) := by
  have hV := Fu_vs h
  obtain ⟨h1, h2, h3, h4, h5, h6, h7, h8, h9, h10, h11, ⟨b1, b2, b3, b4, b5, b6⟩, h13, h14, h15⟩ := id h
  have hN := h1.1
  by_cases hg : inR x 0 N ∧ inR y 0 41
  · obtain ⟨⟨m, -, hm, rfl⟩, ⟨c, -, hc, rfl⟩⟩ := hg
    by_cases hup : d (8 + 30 * m) 8 = 0
    · refine ⟨_, c_changeD h1 h3 hm (by omega) hup, ?_⟩
      rintro rv1 M1 ⟨rfl, rfl⟩
      refine ⟨hV, _, rfl, (r_changeD h2 h4 (by omega) hm (by omega) ((h10.1 m hm).mp hup)).mono ?_⟩
      rintro rv2 M2 ⟨rfl, rfl⟩
      exact ⟨rfl, A, an, Fu_q h⟩
    · obtain ⟨i1, i2, i3, i4, i5, i6⟩ := inv_change (c := c) (rch := rcB N d m) (W := 5 * q) hN h11 hm (fun i h e => h.1 e.symm) b1
      refine ⟨_, c_change h1 h3 h5 h7 h11 hm (by omega) hup (by omega) (fun i hi => by have := b1 i hi; omega), ?_⟩
      rintro rv1 M1 ⟨rfl, d1, r1, rfl, hcf, hrf, hW1, hC1⟩
      have hi : ∀ q j, 8 + 30 * N ≤ q → d1 q j = d q j := fun q j hq => hcf q j (by omega) (fun i hi => by omega)
      have lo : ∀ q j, q ≤ 5 → q ≠ 1 → d1 q j = d q j := fun q j hq h1 => hcf q j (by omega) (fun i hi => by omega)
      have hS1 : Sh N kd r1 := Sh_r h1 hrf
      have hR1 : rs kd r1 (8 + 30 * N) := rs_mono h2 (fun _ _ _ => rfl) (fun q j a b => hrf q j (fun i hi => by omega))
      have hdn : d1 (8 + 30 * N + 5) m = 0 := by
        rw [hi _ _ (by omega)]
        exact Classical.not_not.mp (fun q => hup ((h10.1 m hm).mpr q))
      refine ⟨⟨h14, fun j => (lo 0 j (by omega) (by omega)).trans (h15 j), h1.2.1, h2.1⟩, _, rfl, (r_change (rch := rcB N d m) (A := A) hR1 (rW_keep h6 (hi _ _ (by omega)) (hi _ _ (by omega)) (fun q j _ _ _ _ => hi _ _ (by omega))) ((hi _ _ (by omega)).trans h4) hN hm (by omega) hdn (by omega) (by have := b1 m hm; omega) (lk_rch h10 (fun j => hi _ _ (by omega)) (fun j => hi _ _ (by omega)) hm)).mono ?_⟩
      rintro rv2 M2 ⟨rfl, d2, rfl, hW2⟩
      have f2 : ∀ q j, (q < 8 + 30 * N ∨ 8 + 30 * N + 19 < q) → d2 q j = d1 q j := fun q j hq => hW2.1 q j (by omega) (by omega) (by omega) (by omega) (by omega) (by omega)
      have f2' : ∀ q j, ¬ (q = 8 + 30 * N ∧ (j = 9 ∨ j = 10)) → q ≠ 8 + 30 * N + 1 → q ≠ 8 + 30 * N + 2 → q ≠ 8 + 30 * N + 3 → q ≠ 8 + 30 * N + 4 → q ≠ 8 + 30 * N + 7 → d2 q j = d1 q j := hW2.1
      refine ⟨rfl, (pCh N (rcB N d m) m c A).1, an, hS1, hR1, (f2 _ _ (by omega)).trans ((hcf 1 0 (by omega) (fun i hi => by omega)).trans h3), (f2' _ _ (by omega) (by omega) (by omega) (by omega) (by omega) (by omega)).trans ((hi _ _ (by omega)).trans h4), cW_out hS1 hR1 hW1 (fun q j _ a _ => f2 q j a), rW_self hW2, cS_keep hC1 (fun i hi => f2 _ _ (by omega)) (fun i hi q _ _ => funext (fun j => f2 _ _ (by omega))), gC_st h8 i2 ?_ ?_ ?_, gR_st h9 i2 ?_ ?_, lk_keep h10 (fun i hi => ?_) (fun j => ?_) (fun j => ?_) (fun j => ?_), i1, ⟨fun i hi => by have := i3 i hi; omega, by omega, by omega, b4, by show K ≤ 8 + 30 * N + 20 + (q + 1); omega, by show z ≤ 100000 + 7 * (q + 1); omega⟩, h13, h14, fun j => (f2 _ _ (by omega)).trans ((lo 0 j (by omega) (by omega)).trans (h15 j))⟩
      · exact funext (fun j => (f2 _ _ (by omega)).trans (lo _ _ (by omega) (by omega)))
      · exact funext (fun j => (f2 _ _ (by omega)).trans (lo _ _ (by omega) (by omega)))
      · exact funext (fun j => (f2 _ _ (by omega)).trans (lo _ _ (by omega) (by omega)))
      · exact (f2' _ _ (by omega) (by omega) (by omega) (by omega) (by omega) (by omega)).trans (hi _ _ (by omega))
      · exact funext (fun j => (f2' _ _ (by omega) (by omega) (by omega) (by omega) (by omega) (by omega)).trans (hi _ _ (by omega)))
      · exact (f2 _ _ (by omega)).trans (hcf _ _ (by omega) (fun a ha => by omega))
      · exact (f2 _ _ (by omega)).trans (lo _ _ (by omega) (by omega))
      · exact (f2' _ _ (by omega) (by omega) (by omega) (by omega) (by omega) (by omega)).trans (hi _ _ (by omega))
      · exact (f2' _ _ (by omega) (by omega) (by omega) (by omega) (by omega) (by omega)).trans (hi _ _ (by omega))
  · refine ⟨_, c_changeB h1 h3 hg, ?_⟩
    rintro rv1 M1 ⟨rfl, rfl⟩
    refine ⟨hV, _, rfl, (r_changeB h2 h4 (by omega) hg).mono ?_⟩
    rintro rv2 M2 ⟨rfl, rfl⟩
    exact ⟨rfl, A, an, Fu_q h⟩
end BOTH
