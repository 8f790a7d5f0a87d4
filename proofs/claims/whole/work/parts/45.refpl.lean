/-! THE REFERENCE'S SCHEDULER: placing -/
/-- nothing else has changed -/
def rFr (Y : Nat) (d d' : Nat → Nat → Int32) : Prop := ∀ q j, ¬ (q = Y ∧ (j = 14 ∨ j = 16)) → (q < Y + 9 ∨ Y + 19 < q) → d' q j = d q j
def rPs (K z : Nat) (kd : Nat → Option hK) (r : Nat → Nat → Option Nat) (d : Nat → Nat → Int32) (Y : Nat) (res : Sch × Int32) : Option hV → hM → Prop := fun rv M' => rv = some (.inl res.2) ∧ ∃ d', M' = (K, z, kd, d', r) ∧ rFr Y d d' ∧ rS d' Y res.1
theorem rFr_refl (Y : Nat) (d : Nat → Nat → Int32) : rFr Y d d := fun _ _ _ _ => rfl
theorem rFr_trans {Y : Nat} {d d1 d2 : Nat → Nat → Int32} (h1 : rFr Y d d1) (h2 : rFr Y d1 d2) : rFr Y d d2 := fun q j a b => (h2 q j a b).trans (h1 q j a b)
theorem rFr_hu {Y q j : Nat} {d d1 : Nat → Nat → Int32} {x : Int32} (h1 : rFr Y d d1) (hq : Y + 9 ≤ q ∧ q ≤ Y + 19) : rFr Y d (hu d1 q j x) := fun q' j' a b => (hu_n (by omega)).trans (h1 q' j' a b)
theorem rS_one {wc tc x Y : Nat} {quo cap bd bd' : Nat → Int32} {g g' d d' : Nat → Nat → Int32} (h : rS d Y (wc, tc, quo, cap, g, bd)) (h1 : ∀ t, t ≠ x → g' t = g t)
    (hf : d' (Y + 11) x = g' x 0 ∧ d' (Y + 12) x = g' x 1 ∧ d' (Y + 13) x = g' x 2 ∧ d' (Y + 14) x = g' x 3 ∧ d' (Y + 15) x = g' x 4 ∧ d' (Y + 16) x = g' x 5 ∧ d' (Y + 18) x = g' x 7 ∧ (g' x 4 = 1 → d' (Y + 17) x = g' x 6))
    (hd : ∀ q j, ¬ (Y + 11 ≤ q ∧ q ≤ Y + 18 ∧ j = x) → q ≠ Y + 19 → d' q j = d q j) : rS d' Y (wc, tc, quo, cap, g', bd') := by
  obtain ⟨a1, a2, a3, a4, a5⟩ := h
  refine ⟨(hd _ _ (by omega) (by omega)).trans a1, (hd _ _ (by omega) (by omega)).trans a2, fun u hu4 => (hd _ _ (by omega) (by omega)).trans (a3 u hu4), fun w hw => (hd _ _ (by omega) (by omega)).trans (a4 w hw), fun t ht => ?_⟩
  by_cases e : t = x
  · subst e
    exact hf
  · dsimp only
    rw [h1 t e, hd _ _ (by omega) (by omega), hd _ _ (by omega) (by omega), hd _ _ (by omega) (by omega), hd _ _ (by omega) (by omega), hd _ _ (by omega) (by omega), hd _ _ (by omega) (by omega), hd _ _ (by omega) (by omega), hd _ _ (by omega) (by omega)]
    exact a5 t ht
/-- a task stands otherwise, and runs nowhere -/
theorem rS_off {wc tc x Y : Nat} {quo cap bd : Nat → Int32} {g d : Nat → Nat → Int32} {v : Int32} (h : rS d Y (wc, tc, quo, cap, g, bd)) (hx : x < tc) (hv : ¬ v = 1) : rS (hu d (Y + 15) x v) Y (wc, tc, quo, cap, hu (hu g x 4 v) x 6 (-1), bd) := by
  obtain ⟨b0, b1, b2, b3, b4, b5, b7, b6⟩ := h.2.2.2.2 x hx
  have e4 : hu (hu g x 4 v) x 6 (-1) x 4 = v := by rw [hu_n (by omega), hu_s]
  refine rS_one h (fun t ht => by rw [row_n ht, row_n ht]) ⟨?_, ?_, ?_, ?_, ?_, ?_, ?_, ?_⟩ (fun q j a b => hu_n (by omega))
  · rw [hu_n (by omega), hu_n (by omega), hu_n (by omega)]; exact b0
  · rw [hu_n (by omega), hu_n (by omega), hu_n (by omega)]; exact b1
  · rw [hu_n (by omega), hu_n (by omega), hu_n (by omega)]; exact b2
  · rw [hu_n (by omega), hu_n (by omega), hu_n (by omega)]; exact b3
  · rw [hu_s, e4]
  · rw [hu_n (by omega), hu_n (by omega), hu_n (by omega)]; exact b5
  · rw [hu_n (by omega), hu_n (by omega), hu_n (by omega)]; exact b7
  · intro q
    rw [e4] at q
    exact absurd q hv
theorem rS_beg {wc tc x Y : Nat} {quo cap bd : Nat → Int32} {g d : Nat → Nat → Int32} {w : Int32} (h : rS d Y (wc, tc, quo, cap, g, bd)) (hx : x < tc) : rS (hu (hu (hu d (Y + 15) x 1) (Y + 17) x w) (Y + 16) x (g x 5 + 1)) Y (wc, tc, quo, cap, gBeg g x w, bd) := by
  obtain ⟨b0, b1, b2, b3, b4, b5, b7, b6⟩ := h.2.2.2.2 x hx
  refine rS_one h (fun t ht => by rw [gBeg, row_n ht, row_n ht, row_n ht]) ⟨?_, ?_, ?_, ?_, ?_, ?_, ?_, ?_⟩ (fun q j a b => by rw [hu_n (by omega), hu_n (by omega), hu_n (by omega)])
  · rw [gBeg, hu_n (by omega), hu_n (by omega), hu_n (by omega), hu_n (by omega), hu_n (by omega), hu_n (by omega)]; exact b0
  · rw [gBeg, hu_n (by omega), hu_n (by omega), hu_n (by omega), hu_n (by omega), hu_n (by omega), hu_n (by omega)]; exact b1
  · rw [gBeg, hu_n (by omega), hu_n (by omega), hu_n (by omega), hu_n (by omega), hu_n (by omega), hu_n (by omega)]; exact b2
  · rw [gBeg, hu_n (by omega), hu_n (by omega), hu_n (by omega), hu_n (by omega), hu_n (by omega), hu_n (by omega)]; exact b3
  · rw [gBeg, hu_n (by omega), hu_n (by omega), hu_s, hu_n (by omega), hu_n (by omega), hu_s]
  · rw [gBeg, hu_s, hu_s]
  · rw [gBeg, hu_n (by omega), hu_n (by omega), hu_n (by omega), hu_n (by omega), hu_n (by omega), hu_n (by omega)]; exact b7
  · intro _
    rw [gBeg, hu_n (by omega), hu_s, hu_n (by omega), hu_s]
theorem q_div {k tc j i : Nat} (hk : k = j * tc + i) (hi : i < tc) (hb : k < 10000000) (ht : tc < 100000) : nI k / nI tc = nI j ∧ nI k - nI k / nI tc * nI tc = nI i := by
  have hj : j ≤ k := by rw [hk]; exact Nat.le_trans (Nat.le_mul_of_pos_right j (by omega)) (Nat.le_add_right _ _)
  have h1 : nI k / nI tc = nI j := by
    apply Int32.toInt_inj.mp
    rw [Int32.toInt_div_of_ne_right _ _ (fun e => by
      have := congrArg Int32.toInt e
      rw [i_nI (by omega), show (-1 : Int32).toInt = -1 by decide] at this
      omega), i_nI (by omega), i_nI (by omega), i_nI (by omega), ← Int.ofNat_tdiv, hk, Nat.mul_comm, Nat.mul_add_div (by omega), Nat.div_eq_of_lt hi, Nat.add_zero]
  refine ⟨h1, ?_⟩
  rw [h1, pk_mul, pk_sub (by rw [hk]; exact Nat.le_add_right _ _), hk, Nat.add_sub_cancel_left]
/-- who has given way is no candidate any more -/
theorem cq_ev (g : Nat → Nat → Int32) {w : Nat} (hw : w < 1000) (q : Int32) (x : Nat) : ∀ k, cq (hu (hu g x 4 0) x 6 (-1)) (nI w) q k = (cq g (nI w) q k).filter (fun t => decide (t ≠ x)) := by
  intro k
  induction k with
  | zero => rfl
  | succ k ih =>
    simp only [cq]
    by_cases e : k = x
    · subst e
      rw [if_neg (fun c => by have := c.1; rw [hu_s] at this; exact nI_m1 hw this), ih]
      split
      · rw [List.filter_cons_of_neg (by simp)]
      · rfl
    · rw [row_n e, row_n e, ih]
      split
      · rw [List.filter_cons_of_pos (by simpa using e)]
      · rfl
theorem cL_ev (g : Nat → Nat → Int32) {w : Nat} (hw : w < 1000) {tc : Nat} (htc : tc ≤ 20) {q x : Nat} (hq : q < 1000) {l : List Nat} (h : cL g (nI w) tc q = x :: l) : cL (hu (hu g x 4 0) x 6 (-1)) (nI w) tc q = l := by
  have h1 : ∀ q, cL (hu (hu g x 4 0) x 6 (-1)) (nI w) tc q = (cL g (nI w) tc q).filter (fun t => decide (t ≠ x)) := by
    intro q
    induction q with
    | zero => rfl
    | succ q ih => simp only [cL, ih, cq_ev g hw, List.filter_append]
  rw [h1, h]
  have hnd := cL_nodup g (nI w) htc hq
  rw [h, List.nodup_cons] at hnd
  rw [List.filter_cons_of_neg (by simp), List.filter_eq_self]
  intro a ha
  exact decide_eq_true (fun e => hnd.1 (by rw [← e]; exact ha))
theorem tkL_eq {g g' : Nat → Nat → Int32} (h : ∀ t, g' t 1 = g t 1) (nd : Int32) : ∀ (l : List Nat) (room : Int32), tkL g' nd l room = tkL g nd l room := by
  intro l
  induction l with
  | nil => intro room; rfl
  | cons x l ih => intro room; simp only [tkL, h, ih]
section RPL
variable {X : hX} {K z : Nat} {kd : Nat → Option hK} {d d0 : Nat → Nat → Int32} {r : Nat → Nat → Option Nat} {Y : Nat} {S : Sch} {x y : Int32}
theorem r_placing (hS : rs kd r Y) (hR : rS d Y S) (hF : sWf S) : Cl X kX6_placing [.inr (some Y)] (K, z, kd, d, r) (rPs K z kd r d Y (aPlace S)) := by
  obtain ⟨wc, tc, quo, cap, g0, bd⟩ := S
  obtain ⟨k0, r2, r3, r4, r5, r6, r7, r8, r12, r13, r15, r17, r18, r19, r20, r21, r22, r23, r24, r25, k1, k2, k3, k4, k5, k6, k7, k8, k9, k10, k11, k12, k13, k14, k15, k16, k17, k18, k19, hY⟩ := id hS
  have hwc : wc ≤ 6 := hF.1.1
  have htc : tc ≤ 20 := hF.1.2.1
  refine h_ofWp oX6_placing (by decide) (Nat.le_of_ble_eq_true rfl) ?_
  generalize hQ : rPs K z kd r d Y (aPlace (wc, tc, quo, cap, g0, bd)) = Q
  have m1lt : (-1 : Int32) < 0 := by decide
  have e16' : d Y 16 = nI tc := hR.2.1
  -- one task is tried
  have step : ∀ (g : Nat → Nat → Int32) (t : Nat) (k n x5 : Int32) (d1 : Nat → Nat → Int32) (x6 : Option hV), t < tc → rFr Y d d1 → rS d1 Y (wc, tc, quo, cap, g, bd) → sWf (wc, tc, quo, cap, g, bd) → (∀ i, i < tc → d1 (Y + 19) i = if g0 i 4 = 0 then 1 else 0) →
      (sTry quo cap g wc tc t = none → ∀ x5 x6, Wp X kX6_placing K z 243 [some (.inr (some Y)), some (.inl n), some (.inl k), some (.inl (nI t)), x5, x6] [] (K, z, kd, d1, r) Q) →
      (∀ g', sTry quo cap g wc tc t = some g' → ∀ d2 x5 x6, rFr Y d d2 → rS d2 Y (wc, tc, quo, cap, g', bd) → (∀ i, i < tc → d2 (Y + 19) i = if g0 i 4 = 0 then 1 else 0) → Wp X kX6_placing K z 240 [some (.inr (some Y)), some (.inl n), some (.inl k), some (.inl (nI t)), x5, x6] [] (K, z, kd, d2, r) Q) →
      Wp X kX6_placing K z 95 [some (.inr (some Y)), some (.inl n), some (.inl k), some (.inl (nI t)), some (.inl x5), x6] [] (K, z, kd, d1, r) Q := by
    intro g t k n x5 d1 x6 ht hf1 hR1 hF1 hw1 cN cS
    obtain ⟨e14, e16, eq, ec, hT⟩ := id hR1
    obtain ⟨t0, t1, t2, t3, t4, t5, t7, t6⟩ : d1 (Y + 11) t = g t 0 ∧ d1 (Y + 12) t = g t 1 ∧ d1 (Y + 13) t = g t 2 ∧ d1 (Y + 14) t = g t 3 ∧ d1 (Y + 15) t = g t 4 ∧ d1 (Y + 16) t = g t 5 ∧ d1 (Y + 18) t = g t 7 ∧ (g t 4 = 1 → d1 (Y + 17) t = g t 6) := hT t ht
    obtain ⟨⟨u, hu4, eu⟩, pq, hq4, epq⟩ : (∃ u, u < 4 ∧ g t 0 = nI u) ∧ ∃ q, q < 4 ∧ g t 2 = nI q := hF1.1.2.2 t ht
    have hbe : g t 3 = -1 ∨ inR (g t 3) 0 tc := (hF1.2.1 t ht).2.2.2.1
    -- not begun
    have no : ¬ sMay quo g tc t → Wp X kX6_placing K z 154 [some (.inr (some Y)), some (.inl n), some (.inl k), some (.inl (nI t)), some (.inl x5), x6] [] (K, z, kd, d1, r) Q := by
      intro hm
      refine wp_iconst (v := 0) rfl (by decide) ?_
      refine wp_istore rfl (by decide) ?_
      refine wp_iload rfl rfl ?_
      refine wp_if_eq (tgt := 170) rfl (by decide) ?_ ?_
      · intro _
        refine wp_iconst (v := -1) rfl (by decide) ?_
        refine wp_istore rfl (by decide) ?_
        refine wp_iload rfl rfl ?_
        refine wp_if_lt (tgt := 243) rfl (by decide) ?_ ?_
        · intro _
          exact cN (sTry_not hm) _ _
        · intro h
          exact absurd m1lt h
      · intro h
        exact absurd rfl h
    -- those that must go, go
    have evict : ∀ (w : Nat), w < wc → ∀ (L : List Nat) (G : Nat → Nat → Int32) (d2 : Nat → Nat → Int32), cL G (nI w) tc pq = L → rFr Y d d2 → rS d2 Y (wc, tc, quo, cap, G, bd) → sWf (wc, tc, quo, cap, G, bd) → (∀ i, i < tc → d2 (Y + 19) i = if g0 i 4 = 0 then 1 else 0) → G t 1 = g t 1 → G t 2 = nI pq → ¬ (tkL G (g t 1) L (sFree (cap w) G (nI w) tc)).1 < g t 1 →
        (∀ d3, rFr Y d d3 → rS d3 Y (wc, tc, quo, cap, gEv G (tkL G (g t 1) L (sFree (cap w) G (nI w) tc)).2, bd) → (∀ i, i < tc → d3 (Y + 19) i = if g0 i 4 = 0 then 1 else 0) → Wp X kX6_placing K z 215 [some (.inr (some Y)), some (.inl n), some (.inl k), some (.inl (nI t)), some (.inl 1), some (.inl (nI w))] [] (K, z, kd, d3, r) Q) →
        Wp X kX6_placing K z 178 [some (.inr (some Y)), some (.inl n), some (.inl k), some (.inl (nI t)), some (.inl 1), some (.inl (nI w))] [] (K, z, kd, d2, r) Q := by
      intro w hw L
      induction L with
      | nil =>
        intro G d2 hL hf2 hR2 hF2 hw2 h1 h2 hno fin
        have hfree : Cl X kX6_free [.inr (some Y), .inl (nI w)] (K, z, kd, d2, r) (fun rv M' => rv = some (.inl (sFree (cap w) G (nI w) tc)) ∧ M' = (K, z, kd, d2, r)) := r_free hS hR2 hF2 hw
        have b1 : d2 (Y + 12) t = g t 1 := ((hR2.2.2.2.2 t ht).2.1).trans h1
        refine wp_aload_n rfl rfl ?_
        refine wp_iload rfl rfl ?_
        refine wp_V1 rfl mX6_placing_143 (k0) (Nat.le_of_ble_eq_true rfl) (hfree) ?_
        rintro _ _ ⟨rfl, rfl⟩
        refine wp_aload_n rfl rfl ?_
        refine st_getR rfl fX6_44 rfl (by assumption) (by assumption) ?_
        refine wp_iload_n rfl rfl ?_
        refine st_iald rfl (by assumption) rfl (by omega) (by first | decide | omega) (b1) ?_
        refine wp_icmp_ge (tgt := 215) rfl (by decide) ?_ ?_
        · intro h
          exact fin d2 hf2 hR2 hw2
        · intro h
          refine absurd ?_ hno
          show sFree (cap w) G (nI w) tc < g t 1
          rw [i_le] at h
          rw [i_lt]
          omega
      | cons x L ih =>
        intro G d2 hL hf2 hR2 hF2 hw2 h1 h2 hno fin
        have hfree : Cl X kX6_free [.inr (some Y), .inl (nI w)] (K, z, kd, d2, r) (fun rv M' => rv = some (.inl (sFree (cap w) G (nI w) tc)) ∧ M' = (K, z, kd, d2, r)) := r_free hS hR2 hF2 hw
        have b1 : d2 (Y + 12) t = g t 1 := ((hR2.2.2.2.2 t ht).2.1).trans h1
        have b2 : d2 (Y + 13) t = nI pq := ((hR2.2.2.2.2 t ht).2.2.1).trans h2
        have hxm : x ∈ cL G (nI w) tc pq := by rw [hL]; exact List.mem_cons_self
        obtain ⟨hxt, hx6, -⟩ := (cL_mem G (nI w) tc pq).mp hxm
        refine wp_aload_n rfl rfl ?_
        refine wp_iload rfl rfl ?_
        refine wp_V1 rfl mX6_placing_143 (k0) (Nat.le_of_ble_eq_true rfl) (hfree) ?_
        rintro _ _ ⟨rfl, rfl⟩
        refine wp_aload_n rfl rfl ?_
        refine st_getR rfl fX6_44 rfl (by assumption) (by assumption) ?_
        refine wp_iload_n rfl rfl ?_
        refine st_iald rfl (by assumption) rfl (by omega) (by first | decide | omega) (b1) ?_
        refine wp_icmp_ge (tgt := 215) rfl (by decide) ?_ ?_
        · intro h
          have hst := tkL_stop G h (x :: L)
          rw [hst] at fin
          exact fin d2 hf2 hR2 hw2
        · intro h
          have hhead : Cl X kX6_weakest [.inr (some Y), .inl (nI w), .inl (nI pq), .inl (-1)] (K, z, kd, d2, r) (fun rv M' => M' = (K, z, kd, d2, r) ∧ ((rv = some (.inl (-1)) ∧ cL G (nI w) tc pq = []) ∨ ∃ t l', rv = some (.inl (nI t)) ∧ cL G (nI w) tc pq = t :: l')) := r_head (l1 := []) (l2 := cL G (nI w) tc pq) hS hR2 hF2 (by omega) (by omega) (a := 0) (by omega) rfl rfl (fun _ h => by cases h) (fun _ _ => Nat.zero_le _)
          refine wp_aload_n rfl rfl ?_
          refine st_getR rfl fX6_53 rfl (by assumption) (by assumption) ?_
          refine wp_aload_n rfl rfl ?_
          refine wp_iload rfl rfl ?_
          refine wp_aload_n rfl rfl ?_
          refine st_getR rfl fX6_47 rfl (by assumption) (by assumption) ?_
          refine wp_iload_n rfl rfl ?_
          refine st_iald rfl (by assumption) rfl (by omega) (by first | decide | omega) (b2) ?_
          refine wp_iconst (v := -1) rfl (by decide) ?_
          refine wp_V3 rfl mX6_placing_146 (k0) (Nat.le_of_ble_eq_true rfl) (hhead) ?_
          rintro _ _ ⟨rfl, ⟨rfl, e⟩ | ⟨x', l', rfl, e⟩⟩
          · rw [hL] at e
            cases e
          · rw [hL] at e
            cases e
            have hne : x ≠ t ∨ True := Or.inr trivial
            refine wp_iconst (v := 0) rfl (by decide) ?_
            refine st_iast rfl (by assumption) (by omega) rfl ((by omega : x < 20)) (by first | decide | omega) ?_
            refine wp_goto (tgt := 178) rfl (by decide) ?_
            have hs1 : tkL G (g t 1) (x :: L) (sFree (cap w) G (nI w) tc) = ((tkL G (g t 1) L (sFree (cap w) G (nI w) tc + G x 1)).1, x :: (tkL G (g t 1) L (sFree (cap w) G (nI w) tc + G x 1)).2) := if_neg h
            have hfr : sFree (cap w) (hu (hu G x 4 0) x 6 (-1)) (nI w) tc = sFree (cap w) G (nI w) tc + G x 1 := by
              rw [sFree_off (x := x) (g := G) (fun t ht => by rw [row_n ht, row_n ht]) hx6 (by rw [hu_s]; exact nI_m1 (by omega)), if_pos hxt]
            have hte : ∀ l rm, tkL (hu (hu G x 4 0) x 6 (-1)) (g t 1) l rm = tkL G (g t 1) l rm := fun l rm => tkL_eq (fun t => by rw [hu_n (by omega), hu_n (by omega)]) (g t 1) l rm
            rw [hs1] at hno fin
            refine ih (hu (hu G x 4 0) x 6 (-1)) _ (cL_ev G (by omega) htc (by omega) hL) (rFr_hu hf2 (by omega)) (rS_off hR2 hxt (by decide)) (sWf_off hF2 hxt (Or.inl rfl)) (fun i hi => by rw [hu_n (by omega)]; exact hw2 i hi) (by rw [hu_n (by omega), hu_n (by omega)]; exact h1) (by rw [hu_n (by omega), hu_n (by omega)]; exact h2) ?_ ?_
            · rw [hfr, hte]; exact hno
            · rw [hfr, hte]; exact fin
    -- the task begins
    have begin : ∀ (w : Nat) (G : Nat → Nat → Int32) (d2 : Nat → Nat → Int32), rFr Y d d2 → rS d2 Y (wc, tc, quo, cap, G, bd) → (∀ i, i < tc → d2 (Y + 19) i = if g0 i 4 = 0 then 1 else 0) → sTry quo cap g wc tc t = some (gBeg G t (nI w)) → Wp X kX6_placing K z 215 [some (.inr (some Y)), some (.inl n), some (.inl k), some (.inl (nI t)), some (.inl 1), some (.inl (nI w))] [] (K, z, kd, d2, r) Q := by
      intro w G d2 hf2 hR2 hw2 hTT
      have b5 : d2 (Y + 16) t = G t 5 := (hR2.2.2.2.2 t ht).2.2.2.2.2.1
      refine wp_aload_n rfl rfl ?_
      refine st_getR rfl fX6_53 rfl (by assumption) (by assumption) ?_
      refine wp_iload_n rfl rfl ?_
      refine wp_iconst (v := 1) rfl (by decide) ?_
      refine st_iast rfl (by assumption) (by omega) rfl ((by omega : t < 20)) (by first | decide | omega) ?_
      refine wp_aload_n rfl rfl ?_
      refine st_getR rfl fX6_59 rfl (by assumption) (by assumption) ?_
      refine wp_iload_n rfl rfl ?_
      refine wp_iload rfl rfl ?_
      refine st_iast rfl (by assumption) (by omega) rfl ((by omega : t < 20)) (by first | decide | omega) ?_
      refine wp_aload_n rfl rfl ?_
      refine st_getR rfl fX6_56 rfl (by assumption) (by assumption) ?_
      refine wp_iload_n rfl rfl ?_
      refine wp_dup2 rfl ?_
      refine st_iald rfl (by assumption) rfl ((by omega : t < 20)) (by first | decide | omega) (((hu_n (by omega)).trans ((hu_n (by omega)).trans b5))) ?_
      refine wp_iconst (v := 1) rfl (by decide) ?_
      refine wp_iadd rfl ?_
      refine st_iast rfl (by assumption) (by omega) rfl ((by omega : t < 20)) (by first | decide | omega) ?_
      refine cS _ hTT _ _ _ (rFr_hu (rFr_hu (rFr_hu hf2 (by omega)) (by omega)) (by omega)) (rS_beg hR2 ht) (fun i hi => ?_)
      rw [hu_n (by omega), hu_n (by omega), hu_n (by omega)]
      exact hw2 i hi
    -- it may begin
    have main : sMay quo g tc t → Wp X kX6_placing K z 155 [some (.inr (some Y)), some (.inl n), some (.inl k), some (.inl (nI t)), some (.inl x5), x6] [.inl 1] (K, z, kd, d1, r) Q := by
      intro hm
      have hTT := sTry_may (cap := cap) (wc := wc) hm
      rw [epq, nI_clamp (show pq < 2 ^ 31 by omega)] at hTT
      have hwf : Cl X kX6_workerFor [.inr (some Y), .inl (nI t)] (K, z, kd, d1, r) (fun rv M' => M' = (K, z, kd, d1, r) ∧ rv = some (.inl (if (sBest cap g tc (g t 1) wc).1 = -1 then (sEasy cap g tc (g t 1) pq wc).1 else (sBest cap g tc (g t 1) wc).1))) := r_workerFor hS hR1 hF1 ht epq hq4
      refine wp_istore rfl (by decide) ?_
      refine wp_iload rfl rfl ?_
      refine wp_if_eq (tgt := 170) rfl (by decide) ?_ ?_
      · intro h
        exact absurd h (by decide)
      · intro _
        refine wp_aload_n rfl rfl ?_
        refine wp_iload_n rfl rfl ?_
        refine wp_V1 rfl mX6_placing_155 (k0) (Nat.le_of_ble_eq_true rfl) (hwf) ?_
        rintro _ _ ⟨rfl, rfl⟩
        refine wp_goto (tgt := 171) rfl (by decide) ?_
        rcases sBest_fit cap g tc (g t 1) wc with hb | ⟨b, hbw, hb, hb2⟩
        · have hb1 : (sBest cap g tc (g t 1) wc).1 = -1 := by rw [hb]
          rw [if_pos hb1]
          rw [if_pos hb1] at hTT
          rcases (sEasy_ok cap g tc (g t 1) pq wc).2 with ⟨h1, -⟩ | ⟨w, hw, h1, h2, h3⟩
          · rw [if_pos h1] at hTT
            rw [h1]
            refine wp_istore rfl (by decide) ?_
            refine wp_iload rfl rfl ?_
            refine wp_if_lt (tgt := 243) rfl (by decide) ?_ ?_
            · intro _
              exact cN hTT _ _
            · intro h
              exact absurd m1lt h
          · have hne : ¬ (sEasy cap g tc (g t 1) pq wc).1 = -1 := fun e => nI_m1 (w := w) (by omega) (by rw [← e, h1])
            rw [if_neg hne, h1, nI_clamp (show w < 2 ^ 31 by omega)] at hTT
            rw [h1]
            rw [sOut_tk] at hTT
            refine wp_istore rfl (by decide) ?_
            refine wp_iload rfl rfl ?_
            refine wp_if_lt (tgt := 243) rfl (by decide) ?_ ?_
            · intro h
              exact absurd h (nI_pos (by omega))
            · intro _
              refine evict w hw _ g d1 rfl hf1 hR1 hF1 hw1 rfl epq ?_ ?_
              · intro hc
                rw [h2, sNote, sOut_tk, if_pos hc] at h3
                exact absurd h3 (by decide)
              · intro d3 a b c
                exact begin w _ d3 a b c hTT
        · have hb1 : (sBest cap g tc (g t 1) wc).1 = nI b := by rw [hb]
          have hne : ¬ (sBest cap g tc (g t 1) wc).1 = -1 := fun e => nI_m1 (w := b) (by omega) (by rw [← e, hb1])
          rw [if_neg hne, hb1]
          rw [if_neg hne, hb1] at hTT
          have hst : g t 1 ≤ sFree (cap b) g (nI b) tc := by
            rw [i_lt] at hb2
            rw [i_le]
            omega
          refine wp_istore rfl (by decide) ?_
          refine wp_iload rfl rfl ?_
          refine wp_if_lt (tgt := 243) rfl (by decide) ?_ ?_
          · intro h
            exact absurd h (nI_pos (by omega))
          · intro _
            refine evict b hbw _ g d1 rfl hf1 hR1 hF1 hw1 rfl epq ?_ ?_
            · rw [tkL_stop g hst]
              exact hb2
            · rw [tkL_stop g hst]
              intro d3 a b' c
              exact begin b g d3 a b' c hTT
    have quota : sBf g tc t → Wp X kX6_placing K z 119 [some (.inr (some Y)), some (.inl n), some (.inl k), some (.inl (nI t)), some (.inl x5), x6] [] (K, z, kd, d1, r) Q := by
      intro hbf
      have huse : Cl X kX6_uses [.inr (some Y), .inl (g t 0)] (K, z, kd, d1, r) (fun rv M' => rv = some (.inl (sUsed g (g t 0) tc)) ∧ M' = (K, z, kd, d1, r)) := r_uses hS hR1 hF1
      have equ : d1 (Y + 9) u = quo u := eq u hu4
      have ecl : (g t 0).toNatClampNeg = u := by rw [eu]; exact nI_clamp (by omega)
      refine wp_aload_n rfl rfl ?_
      refine wp_aload_n rfl rfl ?_
      refine st_getR rfl fX6_41 rfl (by assumption) (by assumption) ?_
      refine wp_iload_n rfl rfl ?_
      refine st_iald rfl (by assumption) rfl (by omega) (by first | decide | omega) (t0) ?_
      refine wp_V1 rfl mX6_placing_152 (k0) (Nat.le_of_ble_eq_true rfl) (huse) ?_
      rintro _ _ ⟨rfl, rfl⟩
      refine wp_aload_n rfl rfl ?_
      refine st_getR rfl fX6_44 rfl (by assumption) (by assumption) ?_
      refine wp_iload_n rfl rfl ?_
      refine st_iald rfl (by assumption) rfl (by omega) (by first | decide | omega) (t1) ?_
      refine wp_iadd rfl ?_
      refine wp_aload_n rfl rfl ?_
      refine st_getR rfl fX6_35 rfl (by assumption) (by assumption) ?_
      refine wp_aload_n rfl rfl ?_
      refine st_getR rfl fX6_41 rfl (by assumption) (by assumption) ?_
      refine wp_iload_n rfl rfl ?_
      refine st_iald rfl (by assumption) rfl (by omega) (by first | decide | omega) (t0) ?_
      refine st_iald rfl (by assumption) (eu) (hu4) (by first | decide | omega) (equ) ?_
      refine wp_icmp_gt (tgt := 154) rfl (by decide) ?_ ?_
      · intro h
        exact no (fun hm => hm.2 (by rw [ecl]; exact h))
      · intro h
        refine wp_iconst (v := 1) rfl (by decide) ?_
        refine wp_goto (tgt := 155) rfl (by decide) ?_
        exact main ⟨hbf, by rw [ecl]; exact h⟩
    rcases hbe with hb | ⟨j, -, hj, ej⟩
    · refine wp_aload_n rfl rfl ?_
      refine st_getR rfl fX6_50 rfl (by assumption) (by assumption) ?_
      refine wp_iload_n rfl rfl ?_
      refine st_iald rfl (by assumption) rfl (by omega) (by first | decide | omega) (t3.trans hb) ?_
      refine wp_if_lt (tgt := 119) rfl (by decide) ?_ ?_
      · intro _
        exact quota (fun j hj e => absurd (hb.symm.trans e) (nI_m1 (by omega)))
      · intro h
        exact absurd m1lt h
    · have j4 : d1 (Y + 15) j = g j 4 := (hT j hj).2.2.2.2.1
      refine wp_aload_n rfl rfl ?_
      refine st_getR rfl fX6_50 rfl (by assumption) (by assumption) ?_
      refine wp_iload_n rfl rfl ?_
      refine st_iald rfl (by assumption) rfl (by omega) (by first | decide | omega) (t3.trans ej) ?_
      refine wp_if_lt (tgt := 119) rfl (by decide) ?_ ?_
      · intro h
        exact absurd h (nI_pos (by omega))
      · intro _
        refine wp_aload_n rfl rfl ?_
        refine st_getR rfl fX6_53 rfl (by assumption) (by assumption) ?_
        refine wp_aload_n rfl rfl ?_
        refine st_getR rfl fX6_50 rfl (by assumption) (by assumption) ?_
        refine wp_iload_n rfl rfl ?_
        refine st_iald rfl (by assumption) rfl (by omega) (by first | decide | omega) (t3.trans ej) ?_
        refine st_iald rfl (by assumption) rfl (by omega) (by first | decide | omega) (j4) ?_
        refine wp_iconst (v := 2) rfl (by decide) ?_
        refine wp_icmp_ne (tgt := 154) rfl (by decide) ?_ ?_
        · intro h
          exact no (fun hm => h (hm.1 j hj ej))
        · intro h
          exact quota (fun i hi ei => by
            have : j = i := (nI_eq (by omega) (by omega)).mp (ej.symm.trans ei)
            subst this
            exact h)
  have h4t : (4 : Int32) * nI tc = nI (4 * tc) := pk_mul 4 tc
  -- all tasks of one priority
  have inner : ∀ j, j < 4 → (∀ d1 x3 x4 x5, rFr Y d d1 → rS d1 Y (wc, tc, quo, cap, (sPo quo cap wc tc g0 (j + 1)).1, bd) → (∀ i, i < tc → d1 (Y + 19) i = if g0 i 4 = 0 then 1 else 0) → Wp X kX6_placing K z 40 [some (.inr (some Y)), some (.inl (nI (sPo quo cap wc tc g0 (j + 1)).2)), some (.inl (nI (j * tc + tc))), x3, x4, x5] [] (K, z, kd, d1, r) Q) →
      ∀ n i d1 x3 x4 x5, i + n = tc → rFr Y d d1 → rS d1 Y (wc, tc, quo, cap, (sPk quo cap wc tc g0 (nI (3 - j)) i (sPo quo cap wc tc g0 j)).1, bd) → (∀ i, i < tc → d1 (Y + 19) i = if g0 i 4 = 0 then 1 else 0) → Wp X kX6_placing K z 40 [some (.inr (some Y)), some (.inl (nI (sPk quo cap wc tc g0 (nI (3 - j)) i (sPo quo cap wc tc g0 j)).2)), some (.inl (nI (j * tc + i))), x3, x4, x5] [] (K, z, kd, d1, r) Q := by
    intro j hj fin n
    induction n with
    | zero =>
      intro i d1 x3 x4 x5 hi hf1 hR1 hw1
      have : i = tc := by omega
      subst this
      exact fin d1 x3 x4 x5 hf1 hR1 hw1
    | succ n ih =>
      intro i d1 x3 x4 x5 hi hf1 hR1 hw1
      have hF1 : sWf (wc, tc, quo, cap, (sPk quo cap wc tc g0 (nI (3 - j)) i (sPo quo cap wc tc g0 j)).1, bd) := sWf_pk _ (sWf_po hF j) i (by omega)
      have hstep : sPk quo cap wc tc g0 (nI (3 - j)) (i + 1) (sPo quo cap wc tc g0 j) = if g0 i 4 = 0 ∧ (sPk quo cap wc tc g0 (nI (3 - j)) i (sPo quo cap wc tc g0 j)).1 i 2 = nI (3 - j) then (match sTry quo cap (sPk quo cap wc tc g0 (nI (3 - j)) i (sPo quo cap wc tc g0 j)).1 wc tc i with | none => sPk quo cap wc tc g0 (nI (3 - j)) i (sPo quo cap wc tc g0 j) | some g' => (g', (sPk quo cap wc tc g0 (nI (3 - j)) i (sPo quo cap wc tc g0 j)).2 + 1)) else sPk quo cap wc tc g0 (nI (3 - j)) i (sPo quo cap wc tc g0 j) := rfl
      have ih' := fun d1 x3 x4 x5 => ih (i + 1) d1 x3 x4 x5 (by omega)
      generalize hP : sPk quo cap wc tc g0 (nI (3 - j)) i (sPo quo cap wc tc g0 j) = P at hR1 hF1 hstep ⊢
      obtain ⟨e14, e16, eq, ec, hT⟩ := id hR1
      have t2 : d1 (Y + 13) i = P.1 i 2 := (hT i (by show i < tc; omega)).2.2.1
      have hjt : j * tc + i < 4 * tc := by
        rcases (show j = 0 ∨ j = 1 ∨ j = 2 ∨ j = 3 by omega) with rfl | rfl | rfl | rfl <;> omega
      obtain ⟨hdv, hrm⟩ := q_div (k := j * tc + i) (tc := tc) (j := j) (i := i) rfl (by omega) (by omega) (by omega)
      have h0 : ¬ nI tc = 0 := nI_ne0 (by omega) (by omega)
      have e3 : (3 : Int32) - nI j = nI (3 - j) := pk_sub (a := 3) (by omega)
      have skip : sPk quo cap wc tc g0 (nI (3 - j)) (i + 1) (sPo quo cap wc tc g0 j) = P → ∀ x4 x5, Wp X kX6_placing K z 243 [some (.inr (some Y)), some (.inl (nI P.2)), some (.inl (nI (j * tc + i))), some (.inl (nI i)), x4, x5] [] (K, z, kd, d1, r) Q := by
        intro hs x4 x5
        rw [hs] at ih'
        refine wp_inc rfl rfl (by decide) ?_
        refine wp_goto (tgt := 40) rfl (by decide) ?_
        exact ih' d1 _ _ _ hf1 hR1 hw1
      -- not noted, or of another priority
      have skip2 : ¬ (g0 i 4 = 0 ∧ P.1 i 2 = nI (3 - j)) → ∀ x4 x5, Wp X kX6_placing K z 87 [some (.inr (some Y)), some (.inl (nI P.2)), some (.inl (nI (j * tc + i))), some (.inl (nI i)), x4, x5] [] (K, z, kd, d1, r) Q := by
        intro hc x4 x5
        rw [if_neg hc] at hstep
        refine wp_iconst (v := 0) rfl (by decide) ?_
        refine wp_istore rfl (by decide) ?_
        refine wp_iload rfl rfl ?_
        refine wp_if_eq (tgt := 154) rfl (by decide) ?_ ?_
        · intro _
          refine wp_iconst (v := 0) rfl (by decide) ?_
          refine wp_istore rfl (by decide) ?_
          refine wp_iload rfl rfl ?_
          refine wp_if_eq (tgt := 170) rfl (by decide) ?_ ?_
          · intro _
            refine wp_iconst (v := -1) rfl (by decide) ?_
            refine wp_istore rfl (by decide) ?_
            refine wp_iload rfl rfl ?_
            refine wp_if_lt (tgt := 243) rfl (by decide) ?_ ?_
            · intro _
              exact skip hstep _ _
            · intro h
              exact absurd m1lt h
          · intro h
            exact absurd rfl h
        · intro h
          exact absurd rfl h
      refine wp_iload_n rfl rfl ?_
      refine wp_iconst (v := 4) rfl (by decide) ?_
      refine wp_aload_n rfl rfl ?_
      refine st_getI rfl fX6_121 rfl (by assumption) (e16) ?_
      refine wp_imul rfl ?_
      rw [h4t]
      refine wp_icmp_ge (tgt := 249) rfl (by decide) ?_ ?_
      · intro h
        exact absurd h (nI_ge (by omega) (by omega))
      · intro _
        refine wp_iload_n rfl rfl ?_
        refine wp_aload_n rfl rfl ?_
        refine st_getI rfl fX6_121 rfl (by assumption) (e16) ?_
        refine wp_irem rfl (h0) ?_
        rw [hrm]
        refine wp_istore_n rfl (by decide) ?_
        refine wp_aload_n rfl rfl ?_
        refine st_getR rfl fX6_65 rfl (by assumption) (by assumption) ?_
        refine wp_iload_n rfl rfl ?_
        refine st_zald rfl (by assumption) rfl ((by omega : i < 20)) (by first | decide | omega) (hw1 i (by omega)) ?_
        refine wp_if_eq (tgt := 87) rfl (by decide) ?_ ?_
        · intro h
          exact skip2 (fun c => by rw [if_pos c.1] at h; exact absurd h (by decide)) _ _
        · intro h
          have hw0 : g0 i 4 = 0 := Classical.not_not.mp (fun c => h (if_neg c))
          refine wp_aload_n rfl rfl ?_
          refine st_getR rfl fX6_47 rfl (by assumption) (by assumption) ?_
          refine wp_iload_n rfl rfl ?_
          refine st_iald rfl (by assumption) rfl ((by omega : i < 20)) (by first | decide | omega) (t2) ?_
          refine wp_iconst (v := 3) rfl (by decide) ?_
          refine wp_iload_n rfl rfl ?_
          refine wp_aload_n rfl rfl ?_
          refine st_getI rfl fX6_121 rfl (by assumption) (e16) ?_
          refine wp_idiv rfl (h0) ?_
          rw [hdv]
          refine wp_isub rfl ?_
          rw [e3]
          refine wp_icmp_ne (tgt := 87) rfl (by decide) ?_ ?_
          · intro h80
            exact skip2 (fun c => h80 c.2) _ _
          · intro h80
            rw [if_pos ⟨hw0, h80⟩] at hstep
            refine wp_iconst (v := 1) rfl (by decide) ?_
            refine wp_goto (tgt := 88) rfl (by decide) ?_
            refine wp_istore rfl (by decide) ?_
            refine wp_iload rfl rfl ?_
            refine wp_if_eq (tgt := 154) rfl (by decide) ?_ ?_
            · intro hc
              exact absurd hc (by decide)
            · intro _
              refine step P.1 i _ _ 1 d1 _ (by omega) hf1 hR1 hF1 hw1 ?_ ?_
              · intro hN x5 x6
                rw [hN] at hstep
                exact skip hstep _ _
              · intro g' hN d2 x5 x6 hf2 hR2 hw2
                rw [hN] at hstep
                rw [hstep] at ih'
                refine wp_inc rfl rfl (by decide) ?_
                refine wp_inc rfl rfl (by decide) ?_
                refine wp_goto (tgt := 40) rfl (by decide) ?_
                exact ih' d2 _ _ _ hf2 hR2 hw2
  have outer : ∀ m j d1 x3 x4 x5, m + j = 4 → rFr Y d d1 → rS d1 Y (wc, tc, quo, cap, (sPo quo cap wc tc g0 j).1, bd) → (∀ i, i < tc → d1 (Y + 19) i = if g0 i 4 = 0 then 1 else 0) → Wp X kX6_placing K z 40 [some (.inr (some Y)), some (.inl (nI (sPo quo cap wc tc g0 j).2)), some (.inl (nI (j * tc))), x3, x4, x5] [] (K, z, kd, d1, r) Q := by
    intro m
    induction m with
    | zero =>
      intro j d1 x3 x4 x5 hj hf1 hR1 hw1
      have : j = 4 := by omega
      subst this
      refine wp_iload_n rfl rfl ?_
      refine wp_iconst (v := 4) rfl (by decide) ?_
      refine wp_aload_n rfl rfl ?_
      refine st_getI rfl fX6_121 rfl (by assumption) (hR1.2.1) ?_
      refine wp_imul rfl ?_
      rw [show (4 : Int32) * nI (wc, tc, quo, cap, (sPo quo cap wc tc g0 4).1, bd).2.1 = nI (4 * tc) from h4t]
      refine wp_icmp_ge (tgt := 249) rfl (by decide) ?_ ?_
      · intro _
        refine wp_iload_n rfl rfl ?_
        refine wp_ireturn rfl .int rfl rfl ?_
        rw [← hQ]
        exact ⟨rfl, d1, rfl, hf1, hR1⟩
      · intro h
        exact absurd (nI_le (Nat.le_refl _) (by omega)) h
    | succ m ihm =>
      intro j d1 x3 x4 x5 hj hf1 hR1 hw1
      refine inner j (by omega) (fun d2 y3 y4 y5 a b c => ?_) tc 0 d1 x3 x4 x5 (by omega) hf1 hR1 hw1
      have := ihm (j + 1) d2 y3 y4 y5 (by omega) a b c
      rw [Nat.succ_mul] at this
      exact this
  have first : ∀ n k d1, k + n = tc → (∀ q, q ≠ Y + 19 → d1 q = d q) → (∀ i, i < k → d1 (Y + 19) i = if g0 i 4 = 0 then 1 else 0) → Wp X kX6_placing K z 2 [some (.inr (some Y)), some (.inl (nI k)), none, none, none, none] [] (K, z, kd, d1, r) Q := by
    intro n
    induction n with
    | zero =>
      intro k d1 hk hd hw
      have : k = tc := by omega
      subst this
      refine wp_iload_n rfl rfl ?_
      refine wp_aload_n rfl rfl ?_
      refine st_getI rfl fX6_121 rfl (by assumption) ((congrFun (hd Y (by omega)) 16).trans e16') ?_
      refine wp_icmp_ge (tgt := 36) rfl (by decide) ?_ ?_
      · intro _
        refine wp_iconst (v := 0) rfl (by decide) ?_
        refine wp_istore_n rfl (by decide) ?_
        refine wp_iconst (v := 0) rfl (by decide) ?_
        refine wp_istore_n rfl (by decide) ?_
        have := outer 4 0 d1 none none none rfl (fun q j a b => by rw [hd q (by omega)]) (by
          obtain ⟨a1, a2, a3, a4, a5⟩ := hR
          refine ⟨?_, ?_, ?_, ?_, ?_⟩
          · rw [hd Y (by omega)]; exact a1
          · rw [hd Y (by omega)]; exact a2
          · rw [hd (Y + 9) (by omega)]; exact a3
          · rw [hd (Y + 10) (by omega)]; exact a4
          · rw [hd (Y + 11) (by omega), hd (Y + 12) (by omega), hd (Y + 13) (by omega), hd (Y + 14) (by omega), hd (Y + 15) (by omega), hd (Y + 16) (by omega), hd (Y + 17) (by omega), hd (Y + 18) (by omega)]; exact a5) hw
        rw [Nat.zero_mul] at this
        exact this
      · intro h
        exact absurd (nI_le (Nat.le_refl _) (by omega)) h
    | succ n ih =>
      intro k d1 hk hd hw
      have hw2 : ∀ v, v = (if g0 k 4 = 0 then 1 else 0 : Int32) → ∀ i, i < k + 1 → hu d1 (Y + 19) k v (Y + 19) i = if g0 i 4 = 0 then 1 else 0 := fun v hv i hi => by
        by_cases e : i = k
        · subst e; rw [hu_s]; exact hv
        · rw [hu_n (by omega)]; exact hw i (by omega)
      have hf : d1 (Y + 15) k = g0 k 4 := (congrFun (hd (Y + 15) (by omega)) k).trans (hR.2.2.2.2 k (by show k < tc; omega)).2.2.2.2.1
      refine wp_iload_n rfl rfl ?_
      refine wp_aload_n rfl rfl ?_
      refine st_getI rfl fX6_121 rfl (by assumption) ((congrFun (hd Y (by omega)) 16).trans e16') ?_
      refine wp_icmp_ge (tgt := 36) rfl (by decide) ?_ ?_
      · intro h
        exact absurd h (nI_ge (show k < tc by omega) (by omega))
      · intro _
        refine wp_aload_n rfl rfl ?_
        refine st_getR rfl fX6_65 rfl (by assumption) (by assumption) ?_
        refine wp_iload_n rfl rfl ?_
        refine wp_aload_n rfl rfl ?_
        refine st_getR rfl fX6_53 rfl (by assumption) (by assumption) ?_
        refine wp_iload_n rfl rfl ?_
        refine st_iald rfl (by assumption) rfl ((by omega : k < 20)) (by first | decide | omega) (hf) ?_
        refine wp_if_ne (tgt := 28) rfl (by decide) ?_ ?_
        · intro h21
          refine wp_iconst (v := 0) rfl (by decide) ?_
          refine st_zast rfl (by assumption) rfl ((by omega : k < 20)) (by first | decide | omega) rfl ?_
          refine wp_inc rfl rfl (by decide) ?_
          refine wp_goto (tgt := 2) rfl (by decide) ?_
          first | exact ih (k + 1) _ (by omega) (fun q hq => by rw [row_n hq, hd q hq]) (hw2 _ (by rw [if_neg h21])) | exact ih (k + 1) _ (by omega) (fun q hq => by rw [row_n hq, hd q hq]) (hw2 _ (by rw [if_pos h21]))
        · intro h21
          refine wp_iconst (v := 1) rfl (by decide) ?_
          refine wp_goto (tgt := 29) rfl (by decide) ?_
          refine st_zast rfl (by assumption) rfl ((by omega : k < 20)) (by first | decide | omega) rfl ?_
          refine wp_inc rfl rfl (by decide) ?_
          refine wp_goto (tgt := 2) rfl (by decide) ?_
          first | exact ih (k + 1) _ (by omega) (fun q hq => by rw [row_n hq, hd q hq]) (hw2 _ (by rw [if_neg h21])) | exact ih (k + 1) _ (by omega) (fun q hq => by rw [row_n hq, hd q hq]) (hw2 _ (by rw [if_pos h21]))
  refine wp_iconst (v := 0) rfl (by decide) ?_
  refine wp_istore_n rfl (by decide) ?_
  exact first tc 0 d (by omega) (fun _ _ => rfl) (fun i hi => absurd hi (by omega))
end RPL
