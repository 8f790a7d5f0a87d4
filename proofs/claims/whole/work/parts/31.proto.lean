/-! THE PROTOCOL, in numbers: views, last normal views, lengths, orders done, logs, messages left, messages brought -/
abbrev PS : Type := (Nat → Nat) × (Nat → Nat) × (Nat → Nat) × (Nat → Nat) × (Nat → Nat → Nat → Int32) × Nat × Nat
abbrev pv (A : PS) : Nat → Nat := A.1
abbrev pn (A : PS) : Nat → Nat := A.2.1
abbrev pl (A : PS) : Nat → Nat := A.2.2.1
abbrev pd (A : PS) : Nat → Nat := A.2.2.2.1
abbrev pg (A : PS) : Nat → Nat → Nat → Int32 := A.2.2.2.2.1
abbrev pL (A : PS) : Nat := A.2.2.2.2.2.1
abbrev pB (A : PS) : Nat := A.2.2.2.2.2.2
def pSet (A : PS) (j v n l e : Nat) (g : Nat → Nat → Int32) : PS := (hu1 (pv A) j v, hu1 (pn A) j n, hu1 (pl A) j l, hu1 (pd A) j e, hu1 (pg A) j g, pL A, pB A)
def pBr (A : PS) : PS := (pv A, pn A, pl A, pd A, pg A, pL A - 1, pB A + 1)
/-- j takes view, log and orders done from m -/
def pFo (A : PS) (m j : Nat) : PS := pSet A j (pv A m) (pv A m) (pl A m) (if pd A j < pd A m then pd A m else pd A j) (pg A m)
/-- j has at least view v -/
def pJo (A : PS) (j v : Nat) : PS := if pv A j < v then pSet A j v (pn A j) (pl A j) (pd A j) (pg A j) else A
/-- m leads with the log of b -/
def pLe (A : PS) (m b e : Nat) : PS := pSet A m (pv A m) (pv A m) (pl A b) e (pg A b)
def pDo (A : PS) (m : Nat) : PS := pSet A m (pv A m) (pn A m) (pl A m) (pl A m) (pg A m)
noncomputable def pSp (N : Nat) (rch : Nat → Prop) (m : Nat) : Nat → Nat → PS → Nat → PS
  | 0, _, A, _ => A
  | n + 1, j, A, t => cIf (rch j) (if pL A = 0 then A else if pv (pBr A) j ≤ pv (pBr A) m then (if pL (pFo (pBr A) m j) = 0 then pFo (pBr A) m j else if N < (t + 1) * 2 then pSp N rch m n (j + 1) (pDo (pBr (pFo (pBr A) m j)) m) (t + 1) else pSp N rch m n (j + 1) (pBr (pFo (pBr A) m j)) (t + 1)) else pSp N rch m n (j + 1) (pBr A) t) (pSp N rch m n (j + 1) A t)
noncomputable def pAn (rch : Nat → Prop) (m : Nat) : Nat → Nat → PS → PS
  | 0, _, A => A
  | n + 1, j, A => cIf (rch j) (if pL A = 0 then A else pAn rch m n (j + 1) (if pv (pBr A) j ≤ pv (pBr A) m then pFo (pBr A) m j else pBr A)) (pAn rch m n (j + 1) A)
noncomputable def pGa (N : Nat) (rch : Nat → Prop) (v : Nat) : Nat → Nat → PS → Nat → Nat → Nat → PS × Option (Nat × Nat)
  | 0, _, A, b, e, t => (A, if N < t * 2 then some (b, e) else none)
  | n + 1, j, A, b, e, t => if N < t * 2 then (A, some (b, e)) else cIf (rch j) (if pL A = 0 then (A, none) else if pv (pJo (pBr A) j v) j = v ∧ ¬ pn (pJo (pBr A) j v) j = pv (pJo (pBr A) j v) j then (if pL (pJo (pBr A) j v) = 0 then (pJo (pBr A) j v, none) else pGa N rch v n (j + 1) (pBr (pJo (pBr A) j v)) (if pn (pJo (pBr A) j v) b < pn (pJo (pBr A) j v) j ∨ pn (pJo (pBr A) j v) j = pn (pJo (pBr A) j v) b ∧ pl (pJo (pBr A) j v) b < pl (pJo (pBr A) j v) j then j else b) (if e < pd (pJo (pBr A) j v) j then pd (pJo (pBr A) j v) j else e) (t + 1)) else pGa N rch v n (j + 1) (pJo (pBr A) j v) b e t) (pGa N rch v n (j + 1) A b e t)
/-- the shape of the class's objects: the herd at 1, cut at 2, given answers at 3, masters at 6 and 8 + 30 i -/
def Sh (N : Nat) (kd : Nat → Option hK) (r : Nat → Nat → Option Nat) : Prop :=
  (N = 3 ∨ N = 5) ∧ kd 1 = some (.inl 5) ∧ r 1 1 = some 6 ∧ r 1 2 = some 2 ∧ r 1 3 = some 3 ∧ kd 2 = some (.inr (.inl (.boolean, N * N))) ∧ kd 3 = some (.inl 0) ∧ r 3 0 = some 4 ∧ r 3 1 = some 5 ∧ kd 4 = some (.inr (.inl (.boolean, 60))) ∧ kd 5 = some (.inr (.inl (.int, 60))) ∧ kd 6 = some (.inr (.inr (.object RX1, N))) ∧ ∀ i, i < N → r 6 i = some (8 + 30 * i) ∧ ms kd r (8 + 30 * i)
theorem Sh_r {N : Nat} {kd : Nat → Option hK} {r r' : Nat → Nat → Option Nat} (h : Sh N kd r) (hr : ∀ q j, (∀ i, i < N → q ≠ 8 + 30 * i + 1) → r' q j = r q j) : Sh N kd r' := by
  obtain ⟨hN, k1, a1, a2, a3, k2, k3, b0, b1, k4, k5, k6, hm⟩ := h
  have e : ∀ q j v, (∀ i, i < N → q ≠ 8 + 30 * i + 1) → r q j = v → r' q j = v := fun q j v h1 h2 => (hr q j h1).trans h2
  refine ⟨hN, k1, e _ _ _ (fun i _ => by omega) a1, e _ _ _ (fun i _ => by omega) a2, e _ _ _ (fun i _ => by omega) a3, k2, k3, e _ _ _ (fun i _ => by omega) b0, e _ _ _ (fun i _ => by omega) b1, k4, k5, k6, fun i hi => ?_⟩
  obtain ⟨c0, m0, m1, m2, m3, m4, m5, ⟨s0, s1, s2, s3, s4, s5, s6, s7, s8, s9, s10, s11, s12, s13, s14, s15⟩, m7⟩ := hm i hi
  exact ⟨e _ _ _ (fun i _ => by omega) c0, m0, e _ _ _ (fun i _ => by omega) m1, e _ _ _ (fun i _ => by omega) m2, e _ _ _ (fun i _ => by omega) m3, m4, m5, ⟨s0, e _ _ _ (fun i _ => by omega) s1, e _ _ _ (fun i _ => by omega) s2, e _ _ _ (fun i _ => by omega) s3, e _ _ _ (fun i _ => by omega) s4, e _ _ _ (fun i _ => by omega) s5, e _ _ _ (fun i _ => by omega) s6, s7, s8, s9, s10, s11, s12, fun k hk => e _ _ _ (fun i _ => by omega) (s13 k hk), s14, s15⟩, m7⟩
/-- the class's memory holds the protocol's numbers A; since d0, r0 nothing else has changed -/
def cW (N : Nat) (kd : Nat → Option hK) (d0 : Nat → Nat → Int32) (r0 : Nat → Nat → Option Nat) (A : PS) (d : Nat → Nat → Int32) (r : Nat → Nat → Option Nat) : Prop :=
  (∀ q j, ¬ (q = 1 ∧ (j = 4 ∨ j = 5)) → (∀ i, i < N → ¬ (q = 8 + 30 * i ∧ 4 ≤ j ∧ j ≤ 7)) → d q j = d0 q j) ∧
  (∀ q j, (∀ i, i < N → q ≠ 8 + 30 * i + 1) → r q j = r0 q j) ∧
  (∀ i, i < N → es kd r (8 + 30 * i)) ∧
  (∀ i, i < N → d (8 + 30 * i) 4 = nI (pv A i) ∧ d (8 + 30 * i) 5 = nI (pn A i) ∧ d (8 + 30 * i) 6 = nI (pl A i) ∧ d (8 + 30 * i) 7 = nI (pd A i) ∧ pl A i ≤ 60 ∧ pd A i ≤ 60 ∧ pv A i < 1000000 ∧ pn A i < 1000000 ∧ ∀ k, k < pl A i → ∀ j, j < 7 → lf d r (8 + 30 * i) k j = pg A i k j) ∧
  d 1 4 = nI (pL A) ∧ d 1 5 = nI (pB A) ∧ pL A ≤ 40 ∧ pB A < 1000000
theorem cW_set {N : Nat} {kd : Nat → Option hK} {d0 d d' : Nat → Nat → Int32} {r0 r r' : Nat → Nat → Option Nat} {A : PS} {j v n l e : Nat} {g : Nat → Nat → Int32} (hS : Sh N kd r0) (h : cW N kd d0 r0 A d r) (hj : j < N) (e4 : d' (8 + 30 * j) 4 = nI v) (e5 : d' (8 + 30 * j) 5 = nI n) (e6 : d' (8 + 30 * j) 6 = nI l) (e7 : d' (8 + 30 * j) 7 = nI e)
    (ed : ∀ q i, ¬ (q = 8 + 30 * j ∧ 4 ≤ i ∧ i ≤ 7) → d' q i = d q i) (er : ∀ q i, q ≠ 8 + 30 * j + 1 → r' q i = r q i) (hes : es kd r' (8 + 30 * j)) (hl : l ≤ 60) (he : e ≤ 60) (hv : v < 1000000) (hn : n < 1000000) (hg : ∀ k, k < l → ∀ i, i < 7 → lf d' r' (8 + 30 * j) k i = g k i) : cW N kd d0 r0 (pSet A j v n l e g) d' r' := by
  obtain ⟨h1, h2, h3, h4, h5, h6, h7, h8⟩ := h
  have hkm : ∀ i, i < N → kd (8 + 30 * i) = some (.inl 1) := fun i hi => (hS.2.2.2.2.2.2.2.2.2.2.2.2 i hi).2.1
  have hes' : ∀ i, i < N → es kd r' (8 + 30 * i) := fun i hi => by
    by_cases e : i = j
    · subst e; exact hes
    · intro k hk
      have := h3 i hi k hk
      have e2 : r' (8 + 30 * i + 1) k = r (8 + 30 * i + 1) k := er _ _ (by omega)
      have e3 : op r' (8 + 30 * i) k = op r (8 + 30 * i) k := by simp only [op]; rw [e2]
      rw [e2, e3]
      exact this
  refine ⟨fun q i a b => (ed q i (b j hj)).trans (h1 q i a b), fun q i a => (er q i (a j hj)).trans (h2 q i a), hes', fun i hi => ?_, (ed 1 4 (by omega)).trans h5, (ed 1 5 (by omega)).trans h6, h7, h8⟩
  by_cases e : i = j
  · subst e
    show d' (8 + 30 * i) 4 = nI (hu1 (pv A) i v i) ∧ d' (8 + 30 * i) 5 = nI (hu1 (pn A) i n i) ∧ d' (8 + 30 * i) 6 = nI (hu1 (pl A) i l i) ∧ d' (8 + 30 * i) 7 = nI (hu1 (pd A) i _ i) ∧ hu1 (pl A) i l i ≤ 60 ∧ hu1 (pd A) i _ i ≤ 60 ∧ hu1 (pv A) i v i < 1000000 ∧ hu1 (pn A) i n i < 1000000 ∧ ∀ k, k < hu1 (pl A) i l i → ∀ j, j < 7 → lf d' r' (8 + 30 * i) k j = hu1 (pg A) i g i k j
    simp only [hu1_s]
    exact ⟨e4, e5, e6, e7, hl, he, hv, hn, hg⟩
  · show d' (8 + 30 * i) 4 = nI (hu1 (pv A) j v i) ∧ d' (8 + 30 * i) 5 = nI (hu1 (pn A) j n i) ∧ d' (8 + 30 * i) 6 = nI (hu1 (pl A) j l i) ∧ d' (8 + 30 * i) 7 = nI (hu1 (pd A) j _ i) ∧ hu1 (pl A) j l i ≤ 60 ∧ hu1 (pd A) j _ i ≤ 60 ∧ hu1 (pv A) j v i < 1000000 ∧ hu1 (pn A) j n i < 1000000 ∧ ∀ k, k < hu1 (pl A) j l i → ∀ x, x < 7 → lf d' r' (8 + 30 * i) k x = hu1 (pg A) j g i k x
    simp only [hu1_n e]
    obtain ⟨a4, a5, a6, a7, b1, b2, b3, b4, b5⟩ := h4 i hi
    refine ⟨(ed _ _ (by omega)).trans a4, (ed _ _ (by omega)).trans a5, (ed _ _ (by omega)).trans a6, (ed _ _ (by omega)).trans a7, b1, b2, b3, b4, fun k hk x hx => ?_⟩
    have hk60 : k < 60 := by omega
    have e2 : r' (8 + 30 * i + 1) k = r (8 + 30 * i + 1) k := er _ _ (by omega)
    have e3 : op r' (8 + 30 * i) k = op r (8 + 30 * i) k := by simp only [op]; rw [e2]
    have hne : op r (8 + 30 * i) k ≠ 8 + 30 * j := fun hc => by
      have q1 := (h3 i hi k hk60).2
      rw [hc, hkm j hj] at q1
      cases q1
    show d' (op r' (8 + 30 * i) k) x = _
    rw [e3, ed _ _ (fun hc => hne hc.1)]
    exact b5 k hk x hx
/-- a message is brought -/
theorem cW_br {N : Nat} {kd : Nat → Option hK} {d0 d : Nat → Nat → Int32} {r0 r : Nat → Nat → Option Nat} {A : PS} (hS : Sh N kd r0) (h : cW N kd d0 r0 A d r) (h0 : pL A ≠ 0) (hb : pB A + 1 < 1000000) : cW N kd d0 r0 (pBr A) (hu (hu d 1 4 (nI (pL A - 1))) 1 5 (nI (pB A + 1))) r := by
  obtain ⟨h1, h2, h3, h4, h5, h6, h7, h8⟩ := h
  refine ⟨fun q i a b => by rw [hu_n (by omega), hu_n (by omega)]; exact h1 q i a b, h2, h3, fun i hi => ?_, by rw [hu_n (by omega), hu_s]; rfl, by rw [hu_s]; rfl, by show pL A - 1 ≤ 40; omega, hb⟩
  obtain ⟨a4, a5, a6, a7, b1, b2, b3, b4, b5⟩ := h4 i hi
  refine ⟨by rw [hu_n (by omega), hu_n (by omega)]; exact a4, by rw [hu_n (by omega), hu_n (by omega)]; exact a5, by rw [hu_n (by omega), hu_n (by omega)]; exact a6, by rw [hu_n (by omega), hu_n (by omega)]; exact a7, b1, b2, b3, b4, fun k hk x hx => ?_⟩
  have hk' : k < pl A i := hk
  have hne : op r (8 + 30 * i) k ≠ 1 := fun hc => by
    have q1 := (h3 i hi k (by omega)).2
    rw [hc, hS.2.1] at q1
    cases q1
  show hu (hu d 1 4 _) 1 5 _ (op r (8 + 30 * i) k) x = _
  rw [hu_n (by omega), hu_n (by omega)]
  exact b5 k hk x hx
def rcB (N : Nat) (d : Nat → Nat → Int32) (a b : Nat) : Prop := a ≠ b ∧ ¬ d (8 + 30 * a) 8 = 0 ∧ ¬ d (8 + 30 * b) 8 = 0 ∧ d 2 (a * N + b) = 0
section PROTO
variable {X : hX} {K z : Nat} {kd : Nat → Option hK} {d d0 : Nat → Nat → Int32} {r r0 : Nat → Nat → Option Nat} {N m j : Nat} {A : PS}
theorem c_reaches (hS : Sh N kd r) (hd : d 1 0 = nI N) (hm : m < N) (hj : j < N) : Cl X kX5_reaches [.inr (some 1), .inl (nI m), .inl (nI j)] (K, z, kd, d, r) (fun rv M' => M' = (K, z, kd, d, r) ∧ ((rcB N d m j ∧ rv = some (.inl 1)) ∨ (¬ rcB N d m j ∧ rv = some (.inl 0)))) := by
  obtain ⟨hN, k1, a1, a2, a3, k2, k3, b0, b1, k4, k5, k6, hmm⟩ := hS
  obtain ⟨c0, m0⟩ := hmm m hm
  obtain ⟨c1, m1⟩ := hmm j hj
  have km := m0.1
  have kj := m1.1
  have hlt : m * N + j < N * N := by rcases hN with rfl | rfl <;> omega
  refine h_ofWp oX5_reaches (by decide) (Nat.le_of_ble_eq_true rfl) ?_
  have ix : nI m * nI N + nI j = nI (m * N + j) := by rw [pk_mul, nI_add]
  have hNN : N * N < 2147483648 := by rcases hN with rfl | rfl <;> decide
  generalize hQ : (fun (rv : Option hV) (M' : hM) => M' = (K, z, kd, d, r) ∧ ((rcB N d m j ∧ rv = some (.inl 1)) ∨ (¬ rcB N d m j ∧ rv = some (.inl 0)))) = Q
  have no : ¬ rcB N d m j → Q (some (.inl 0)) (K, z, kd, d, r) := fun h => by rw [← hQ]; exact ⟨rfl, Or.inr ⟨h, rfl⟩⟩
  have yes : rcB N d m j → Q (some (.inl 1)) (K, z, kd, d, r) := fun h => by rw [← hQ]; exact ⟨rfl, Or.inl ⟨h, rfl⟩⟩
  refine wp_iload_n rfl rfl ?_
  refine wp_iload_n rfl rfl ?_
  refine wp_icmp_eq (tgt := 49) rfl (by decide) ?_ ?_
  · intro h2
    refine wp_iconst (v := 0) rfl (by decide) ?_
    refine wp_ireturn rfl .boolean rfl rfl ?_
    exact no (fun h => h.1 ((nI_eq (by omega) (by omega)).mp h2))
  · intro h2
    refine wp_aload_n rfl rfl ?_
    refine st_getR rfl fX5_26 rfl (by assumption) (by assumption) ?_
    refine wp_iload_n rfl rfl ?_
    refine st_aald (t0 := 2) rfl (by assumption) rfl rfl (hm) (by first | decide | omega) (c0) ?_
    refine st_getI rfl fX5_42 rfl (km) rfl ?_
    refine wp_if_eq (tgt := 49) rfl (by decide) ?_ ?_
    · intro h14
      refine wp_iconst (v := 0) rfl (by decide) ?_
      refine wp_ireturn rfl .boolean rfl rfl ?_
      exact no (fun h => h.2.1 h14)
    · intro h14
      refine wp_aload_n rfl rfl ?_
      refine st_getR rfl fX5_26 rfl (by assumption) (by assumption) ?_
      refine wp_iload_n rfl rfl ?_
      refine st_aald (t0 := 2) rfl (by assumption) rfl rfl (hj) (by first | decide | omega) (c1) ?_
      refine st_getI rfl fX5_42 rfl (kj) rfl ?_
      refine wp_if_eq (tgt := 49) rfl (by decide) ?_ ?_
      · intro h26
        refine wp_iconst (v := 0) rfl (by decide) ?_
        refine wp_ireturn rfl .boolean rfl rfl ?_
        exact no (fun h => h.2.2.1 h26)
      · intro h26
        refine wp_aload_n rfl rfl ?_
        refine st_getR rfl fX5_13 rfl (by assumption) (by assumption) ?_
        refine wp_iload_n rfl rfl ?_
        refine wp_aload_n rfl rfl ?_
        refine st_getI rfl fX5_7 rfl (by assumption) (hd) ?_
        refine wp_imul rfl ?_
        refine wp_iload_n rfl rfl ?_
        refine wp_iadd rfl ?_
        refine st_zald rfl k2 ix hlt hNN rfl ?_
        refine wp_if_ne (tgt := 49) rfl (by decide) ?_ ?_
        · intro h42
          refine wp_iconst (v := 0) rfl (by decide) ?_
          refine wp_ireturn rfl .boolean rfl rfl ?_
          exact no (fun h => h42 h.2.2.2)
        · intro h42
          refine wp_iconst (v := 1) rfl (by decide) ?_
          refine wp_goto (tgt := 50) rfl (by decide) ?_
          refine wp_ireturn rfl .boolean rfl rfl ?_
          exact yes ⟨fun e => h2 (by rw [e]), h14, h26, h42⟩
theorem c_bring (hS : Sh N kd r0) (hW : cW N kd d0 r0 A d r) (hb : pB A + pL A < 1000000) : Cl X kX5_bringMessage [.inr (some 1)] (K, z, kd, d, r) (fun rv M' => (pL A = 0 ∧ rv = some (.inl 0) ∧ M' = (K, z, kd, d, r)) ∨ (¬ pL A = 0 ∧ rv = some (.inl 1) ∧ ∃ d', M' = (K, z, kd, d', r) ∧ cW N kd d0 r0 (pBr A) d' r)) := by
  have k1 := hS.2.1
  obtain ⟨h1, h2, h3, h4, h5, h6, h7, h8⟩ := id hW
  refine h_ofWp oX5_bringMessage (by decide) (Nat.le_of_ble_eq_true rfl) ?_
  refine wp_aload_n rfl rfl ?_
  refine st_getI rfl fX5_49 rfl (by assumption) (h5) ?_
  refine wp_if_gt (tgt := 9) rfl (by decide) ?_ ?_
  · intro h
    have hne : ¬ pL A = 0 := fun e => by
      rw [e] at h
      exact absurd h (by decide)
    refine wp_aload_n rfl rfl ?_
    refine wp_dup rfl ?_
    refine st_getI rfl fX5_49 rfl (by assumption) (h5) ?_
    refine wp_iconst (v := 1) rfl (by decide) ?_
    refine wp_isub rfl ?_
    refine st_putI rfl fX5_49 rfl rfl ⟨rfl, rfl⟩ (by assumption) ?_
    refine wp_aload_n rfl rfl ?_
    refine wp_dup rfl ?_
    refine st_getI rfl fX5_154 rfl (by assumption) ((hu_n (by omega)).trans h6) ?_
    refine wp_iconst (v := 1) rfl (by decide) ?_
    refine wp_iadd rfl ?_
    refine st_putI rfl fX5_154 rfl rfl ⟨rfl, rfl⟩ (by assumption) ?_
    refine wp_iconst (v := 1) rfl (by decide) ?_
    refine wp_ireturn rfl .boolean rfl rfl ?_
    refine Or.inr ⟨hne, rfl, _, rfl, ?_⟩
    have e1 : nI (pL A) - 1 = nI (pL A - 1) := pk_sub (b := 1) (show 1 ≤ pL A by omega)
    rw [e1, nI_1]
    exact cW_br hS hW hne (by omega)
  · intro h
    have he : pL A = 0 := by
      by_cases e : pL A = 0
      · exact e
      · exact absurd (by rw [i_lt, i_nI (by omega), show (0 : Int32).toInt = 0 by decide]; omega) h
    refine wp_iconst (v := 0) rfl (by decide) ?_
    refine wp_ireturn rfl .boolean rfl rfl ?_
    exact Or.inl ⟨he, rfl, rfl⟩
/-- j follows m -/
theorem cW_fo (hS : Sh N kd r0) (hW : cW N kd d0 r0 A d r) (hm : m < N) (hj : j < N) (hne : j ≠ m) : cW N kd d0 r0 (pFo A m j) (hu (hu (hu (hu d (8 + 30 * j) 4 (d (8 + 30 * m) 4)) (8 + 30 * j) 5 (d (8 + 30 * m) 4)) (8 + 30 * j) 6 (nI (pl A m))) (8 + 30 * j) 7 (if d (8 + 30 * j) 7 < d (8 + 30 * m) 7 then d (8 + 30 * m) 7 else d (8 + 30 * j) 7)) (rT r (8 + 30 * j) (8 + 30 * m) (pl A m)) := by
  obtain ⟨h1, h2, h3, h4, h5, h6, h7, h8⟩ := id hW
  obtain ⟨a4, a5, a6, a7, b1, b2, b3, b4, b5⟩ := h4 m hm
  obtain ⟨a4', a5', a6', a7', b1', b2', b3', b4', b5'⟩ := h4 j hj
  have hkm : ∀ i, i < N → kd (8 + 30 * i) = some (.inl 1) := fun i hi => (hS.2.2.2.2.2.2.2.2.2.2.2.2 i hi).2.1
  have er : ∀ k, k < pl A m → rT r (8 + 30 * j) (8 + 30 * m) (pl A m) (8 + 30 * j + 1) k = r (8 + 30 * m + 1) k := fun k hk => if_pos ⟨rfl, hk⟩
  have er2 : ∀ k, ¬ k < pl A m → rT r (8 + 30 * j) (8 + 30 * m) (pl A m) (8 + 30 * j + 1) k = r (8 + 30 * j + 1) k := fun k hk => if_neg (fun h => hk h.2)
  have eo : ∀ k, k < pl A m → op (rT r (8 + 30 * j) (8 + 30 * m) (pl A m)) (8 + 30 * j) k = op r (8 + 30 * m) k := fun k hk => by simp only [op]; rw [er k hk]
  refine cW_set hS hW hj ?_ ?_ ?_ ?_ ?_ ?_ ?_ b1 ?_ b3 b3 ?_
  · rw [hu_n (by omega), hu_n (by omega), hu_n (by omega), hu_s]; exact a4
  · rw [hu_n (by omega), hu_n (by omega), hu_s]; exact a4
  · rw [hu_n (by omega), hu_s]
  · rw [hu_s, a7, a7']
    by_cases hc : pd A j < pd A m
    · rw [if_pos hc, if_pos ((nI_ltI (by omega) (by omega)).mpr hc)]
    · rw [if_neg hc, if_neg (fun q => hc ((nI_ltI (by omega) (by omega)).mp q))]
  · intro q i hq
    rw [hu_n (by omega), hu_n (by omega), hu_n (by omega), hu_n (by omega)]
  · intro q i hq
    exact rT_o hq i
  · intro k hk
    by_cases hc : k < pl A m
    · rw [er k hc, eo k hc]
      exact h3 m hm k hk
    · rw [er2 k hc, show op (rT r (8 + 30 * j) (8 + 30 * m) (pl A m)) (8 + 30 * j) k = op r (8 + 30 * j) k by simp only [op]; rw [er2 k hc]]
      exact h3 j hj k hk
  · by_cases hc : pd A j < pd A m
    · rw [if_pos hc]; exact b2
    · rw [if_neg hc]; exact b2'
  · intro k hk i hi
    have hne2 : op r (8 + 30 * m) k ≠ 8 + 30 * j := fun hc => by
      have q1 := (h3 m hm k (by omega)).2
      rw [hc, hkm j hj] at q1
      cases q1
    show hu _ _ _ _ (op (rT r (8 + 30 * j) (8 + 30 * m) (pl A m)) (8 + 30 * j) k) i = _
    rw [eo k hk, hu_n (by omega), hu_n (by omega), hu_n (by omega), hu_n (by omega)]
    exact b5 k hk i hi
theorem c_followP (hS : Sh N kd r0) (hW : cW N kd d0 r0 A d r) (hm : m < N) (hj : j < N) (hne : j ≠ m) : Cl X kX1_follow [.inr (some (8 + 30 * j)), .inr (some (8 + 30 * m))] (K, z, kd, d, r) (fun rv M' => (¬ pv A j ≤ pv A m ∧ rv = some (.inl 0) ∧ M' = (K, z, kd, d, r)) ∨ (pv A j ≤ pv A m ∧ rv = some (.inl 1) ∧ ∃ d' r', M' = (K, z, kd, d', r') ∧ cW N kd d0 r0 (pFo A m j) d' r')) := by
  have hS' := Sh_r hS hW.2.1
  obtain ⟨h1, h2, h3, h4, h5, h6, h7, h8⟩ := id hW
  obtain ⟨a4, a5, a6, a7, b1, b2, b3, b4, b5⟩ := h4 m hm
  obtain ⟨a4', a5', a6', a7', b1', b2', b3', b4', b5'⟩ := h4 j hj
  refine (c_follow (hS'.2.2.2.2.2.2.2.2.2.2.2.2 j hj).2 (hS'.2.2.2.2.2.2.2.2.2.2.2.2 m hm).2 (by omega) (h3 m hm) a6 b1).mono ?_
  rintro rv M' (⟨hc, rfl, rfl⟩ | ⟨hc, rfl, rfl⟩)
  · refine Or.inl ⟨fun hle => hc ?_, rfl, rfl⟩
    rw [a4, a4']
    exact nI_le hle (by omega)
  · refine Or.inr ⟨?_, rfl, _, _, rfl, cW_fo hS hW hm hj hne⟩
    rw [a4, a4'] at hc
    exact (nI_leI (by omega) (by omega)).mp hc
end PROTO
