/-! THE CLASS'S SCHEDULER: beginning a task, placing -/
/-- those of the list give way -/
def gEv (g : Nat → Nat → Int32) (l : List Nat) : Nat → Nat → Int32 := l.foldl (fun g t => hu (hu g t 4 0) t 6 (-1)) g
/-- task t begins on w -/
def gBeg (g : Nat → Nat → Int32) (t : Nat) (w : Int32) : Nat → Nat → Int32 := hu (hu (hu g t 4 1) t 6 w) t 5 (g t 5 + 1)
def sBf (g : Nat → Nat → Int32) (tc t : Nat) : Prop := ∀ j, j < tc → g t 3 = nI j → g j 4 = 2
def sMay (quo : Nat → Int32) (g : Nat → Nat → Int32) (tc t : Nat) : Prop := sBf g tc t ∧ ¬ quo (g t 0).toNatClampNeg < sUsed g (g t 0) tc + g t 1
noncomputable def sTry (quo cap : Nat → Int32) (g : Nat → Nat → Int32) (wc tc t : Nat) : Option (Nat → Nat → Int32) :=
  @ite _ (sMay quo g tc t) (Classical.propDecidable _)
    (if (sBest cap g tc (g t 1) wc).1 = -1 then
      (if (sEasy cap g tc (g t 1) (g t 2).toNatClampNeg wc).1 = -1 then none
       else some (gBeg (gEv g (sOut g (sEasy cap g tc (g t 1) (g t 2).toNatClampNeg wc).1 (g t 1) tc (sFree (cap (sEasy cap g tc (g t 1) (g t 2).toNatClampNeg wc).1.toNatClampNeg) g (sEasy cap g tc (g t 1) (g t 2).toNatClampNeg wc).1 tc) (g t 2).toNatClampNeg).2) t (sEasy cap g tc (g t 1) (g t 2).toNatClampNeg wc).1))
     else some (gBeg g t (sBest cap g tc (g t 1) wc).1))
    none
theorem sTry_may {quo cap : Nat → Int32} {g : Nat → Nat → Int32} {wc tc t : Nat} (hm : sMay quo g tc t) : sTry quo cap g wc tc t =
    (if (sBest cap g tc (g t 1) wc).1 = -1 then
      (if (sEasy cap g tc (g t 1) (g t 2).toNatClampNeg wc).1 = -1 then none
       else some (gBeg (gEv g (sOut g (sEasy cap g tc (g t 1) (g t 2).toNatClampNeg wc).1 (g t 1) tc (sFree (cap (sEasy cap g tc (g t 1) (g t 2).toNatClampNeg wc).1.toNatClampNeg) g (sEasy cap g tc (g t 1) (g t 2).toNatClampNeg wc).1 tc) (g t 2).toNatClampNeg).2) t (sEasy cap g tc (g t 1) (g t 2).toNatClampNeg wc).1))
     else some (gBeg g t (sBest cap g tc (g t 1) wc).1)) := by
  unfold sTry
  exact if_pos hm
theorem sTry_not {quo cap : Nat → Int32} {g : Nat → Nat → Int32} {wc tc t : Nat} (hm : ¬ sMay quo g tc t) : sTry quo cap g wc tc t = none := by
  unfold sTry
  exact if_neg hm
def dEv (d : Nat → Nat → Int32) (p : Nat) (l : List Nat) : Nat → Nat → Int32 := l.foldl (fun d t => hu (hu d (p + 7 + t) 4 0) (p + 7 + t) 6 (-1)) d
theorem tk_hu (d : Nat → Nat → Int32) (p t j : Nat) (x : Int32) : tk (hu d (p + 7 + t) j x) p = hu (tk d p) t j x := by
  funext t' j'
  simp only [tk, hu]
  by_cases h : t' = t
  · subst h; simp
  · rw [if_neg (by omega), if_neg (by omega)]
theorem dEv_tk (p : Nat) (l : List Nat) : ∀ d, tk (dEv d p l) p = gEv (tk d p) l := by
  induction l with
  | nil => intro d; rfl
  | cons t l ih =>
    intro d
    show tk (dEv (hu (hu d (p + 7 + t) 4 0) (p + 7 + t) 6 (-1)) p l) p = gEv (hu (hu (tk d p) t 4 0) t 6 (-1)) l
    rw [ih, tk_hu, tk_hu]
theorem dEv_n (p : Nat) (l : List Nat) : ∀ d q, (∀ t ∈ l, t < 20) → (q < p + 7 ∨ p + 27 ≤ q) → dEv d p l q = d q := by
  induction l with
  | nil => intro d q _ _; rfl
  | cons t l ih =>
    intro d q hl hq
    have ht := hl t List.mem_cons_self
    show dEv (hu (hu d (p + 7 + t) 4 0) (p + 7 + t) 6 (-1)) p l q = d q
    rw [ih _ q (fun x hx => hl x (List.mem_cons_of_mem _ hx)) hq]
    funext i
    rw [hu_n (by omega), hu_n (by omega)]
theorem dEv_app (d : Nat → Nat → Int32) (p : Nat) (l : List Nat) (t : Nat) : dEv d p (l ++ [t]) = hu (hu (dEv d p l) (p + 7 + t) 4 0) (p + 7 + t) 6 (-1) := by
  simp [dEv]
theorem sIn_mem (g : Nat → Nat → Int32) (w q nd : Int32) : ∀ (k : Nat) (s : Int32 × List Nat) (t : Nat), t ∈ (sIn g w q nd k s).2 → t ∈ s.2 ∨ (t < k ∧ g t 6 = w ∧ g t 2 = q) := by
  intro k
  induction k with
  | zero => intro s t h; exact Or.inl h
  | succ k ih =>
    intro s t h
    simp only [sIn] at h
    split at h
    · exact Or.inl h
    · split at h
      · rename_i hc
        rcases ih _ t h with h1 | h1
        · rcases List.mem_append.mp h1 with h2 | h2
          · exact Or.inl h2
          · rw [List.mem_singleton.mp h2]
            exact Or.inr ⟨by omega, hc⟩
        · exact Or.inr ⟨by omega, h1.2⟩
      · rcases ih _ t h with h1 | h1
        · exact Or.inl h1
        · exact Or.inr ⟨by omega, h1.2⟩
theorem sOut_mem (g : Nat → Nat → Int32) (w nd : Int32) (tc : Nat) (free : Int32) : ∀ (q : Nat) (t : Nat), t ∈ (sOut g w nd tc free q).2 → t < tc ∧ g t 6 = w ∧ ∃ i, i < q ∧ g t 2 = nI i := by
  intro q
  induction q with
  | zero => intro t h; cases h
  | succ q ih =>
    intro t h
    rcases sIn_mem _ _ _ _ _ _ _ h with h1 | h1
    · obtain ⟨a, b, i, c, e⟩ := ih t h1
      exact ⟨a, b, i, by omega, e⟩
    · exact ⟨h1.1, h1.2.1, q, by omega, h1.2.2⟩
theorem sOut_len2 (g : Nat → Nat → Int32) (w nd : Int32) (tc : Nat) (free : Int32) {q : Nat} (hq : q < 999) : (sOut g w nd tc free q).2.length ≤ tc := by
  have := sOut_room g w nd tc free hq
  omega
/-- the one that is chosen can be cleared -/
theorem sEasy_ok (cap : Nat → Int32) (g : Nat → Nat → Int32) (tc : Nat) (nd : Int32) (pq : Nat) (n : Nat) : ¬ 21 < (sEasy cap g tc nd pq n).2 ∧ ((sEasy cap g tc nd pq n).1 = -1 ∧ (sEasy cap g tc nd pq n).2 = 21 ∨ ∃ w, w < n ∧ (sEasy cap g tc nd pq n).1 = nI w ∧ (sEasy cap g tc nd pq n).2 = sNote g (nI w) nd tc (sFree (cap w) g (nI w) tc) pq ∧ (sEasy cap g tc nd pq n).2 < 21) := by
  induction n with
  | zero => exact ⟨by show ¬ (21 : Int32) < 21; decide, Or.inl ⟨rfl, rfl⟩⟩
  | succ n ih =>
    simp only [sEasy]
    split
    · rename_i h
      have h2 : sNote g (nI n) nd tc (sFree (cap n) g (nI n) tc) pq < 21 := by
        have h1 := ih.1
        rw [i_lt] at h1 ⊢
        rw [i_le] at h
        omega
      refine ⟨?_, Or.inr ⟨n, by omega, rfl, rfl, h2⟩⟩
      show ¬ (21 : Int32) < sNote g (nI n) nd tc (sFree (cap n) g (nI n) tc) pq
      rw [i_lt] at h2 ⊢
      omega
    · refine ⟨ih.1, ?_⟩
      rcases ih.2 with h | ⟨w, h1, h2⟩
      · exact Or.inl h
      · exact Or.inr ⟨w, by omega, h2⟩
section BEGIN
variable {X : hX} {K z : Nat} {kd : Nat → Option hK} {d : Nat → Nat → Int32} {r : Nat → Nat → Option Nat} {p tc wc : Nat}
theorem c_easiest {a pq : Nat} (hs : sc kd r p) (htc : d p 7 = nI tc) (h20 : tc ≤ 20) (hwc : d p 6 = nI wc) (h6 : wc ≤ 6) (ha : kd a = some (.inl 4)) (ha6 : a ≠ p + 6) (hpq : d a 2 = nI pq) (h4 : pq ≤ 4) : Cl X kX3_easiestToClear [.inr (some p), .inr (some a)] (K, z, kd, d, r) (fun rv M' => rv = some (.inl (sEasy (d (p + 3)) (tk d p) tc (d a 1) pq wc).1) ∧ ∃ d', M' = (K, z, kd, d', r) ∧ ∀ q, q ≠ p + 6 → d' q = d q) := by
  have hs0 := hs
  obtain ⟨k0, r0, r1, r2, r3, r4, r5, k1, k2, k3, k4, k5, k6, rt, kt, hp⟩ := hs
  refine h_ofWp oX3_easiestToClear (by decide) (Nat.le_of_ble_eq_true rfl) ?_
  have loop : ∀ n k x5 d', k + n = wc → (∀ q, q ≠ p + 6 → d' q = d q) → Wp X kX3_easiestToClear K z 8 [some (.inr (some p)), some (.inr (some a)), some (.inl (sEasy (d (p + 3)) (tk d p) tc (d a 1) pq k).1), some (.inl (sEasy (d (p + 3)) (tk d p) tc (d a 1) pq k).2), some (.inl (nI k)), x5] [] (K, z, kd, d', r) (fun rv M' => rv = some (.inl (sEasy (d (p + 3)) (tk d p) tc (d a 1) pq wc).1) ∧ ∃ d', M' = (K, z, kd, d', r) ∧ ∀ q, q ≠ p + 6 → d' q = d q) := by
    intro n
    induction n with
    | zero =>
      intro k x5 d' hk hd
      refine wp_iload rfl rfl ?_
      refine wp_aload_n rfl rfl ?_
      refine st_getI rfl fX3_33 rfl (by assumption) ((congrFun (hd p (by omega)) 6).trans hwc) ?_
      refine wp_icmp_ge (tgt := 50) rfl (by decide) ?_ ?_
      · intro _
        have : k = wc := by omega
        subst this
        refine wp_iload_n rfl rfl ?_
        refine wp_ireturn rfl .int rfl rfl (⟨rfl, d', rfl, hd⟩)
      · intro h
        exact absurd (nI_le (by omega) (by omega)) h
    | succ n ih =>
      intro k x5 d' hk hd
      have htk : tk d' p = tk d p := by
        funext t j
        exact congrFun (hd (p + 7 + t) (by omega)) j
      have e1 : d' (p + 3) k = d (p + 3) k := congrFun (hd (p + 3) (by omega)) k
      have e2 : d' a 1 = d a 1 := congrFun (hd a ha6) 1
      have e7 : d' p 7 = nI tc := (congrFun (hd p (by omega)) 7).trans htc
      have e3 : d' a 2 = nI pq := (congrFun (hd a ha6) 2).trans hpq
      refine wp_iload rfl rfl ?_
      refine wp_aload_n rfl rfl ?_
      refine st_getI rfl fX3_33 rfl (by assumption) ((congrFun (hd p (by omega)) 6).trans hwc) ?_
      refine wp_icmp_ge (tgt := 50) rfl (by decide) ?_ ?_
      · intro h
        exact absurd h (nI_ge (by omega) (by omega))
      · intro _
        refine wp_aload_n rfl rfl ?_
        refine wp_iload rfl rfl ?_
        refine wp_aload_n rfl rfl ?_
        refine wp_aload_n rfl rfl ?_
        refine wp_iload rfl rfl ?_
        refine wp_V1 rfl mX3_easiestToClear_146 (k0) (Nat.le_of_ble_eq_true rfl) (c_freeOn hs0 e7 h20 (by omega)) ?_
        rintro _ _ ⟨rfl, rfl⟩
        refine wp_V3 rfl mX3_easiestToClear_149 (k0) (Nat.le_of_ble_eq_true rfl) (c_noteLeaving hs0 e7 h20 ha ha6 e3 h4) ?_
        rintro _ _ ⟨rfl, rfl⟩
        rw [htk, e1, e2]
        have hd2 : ∀ q, q ≠ p + 6 → sLv d' p (sOut (tk d p) (nI k) (d a 1) tc (sFree (d (p + 3) k) (tk d p) (nI k) tc) pq).2 q = d q := fun q hq => by
          funext i
          rw [sLv_n hq, hd q hq]
        have ih' := fun x => ih (k + 1) x _ (by omega) hd2
        refine wp_istore rfl (by decide) ?_
        refine wp_iload rfl rfl ?_
        refine wp_iload_n rfl rfl ?_
        refine wp_icmp_ge (tgt := 44) rfl (by decide) ?_ ?_
        · intro h35
          refine wp_inc rfl rfl (by decide) ?_
          refine wp_goto (tgt := 8) rfl (by decide) ?_
          first | (simp only [show sEasy (d (p + 3)) (tk d p) tc (d a 1) pq (k + 1) = (nI k, sNote (tk d p) (nI k) (d a 1) tc (sFree (d (p + 3) k) (tk d p) (nI k) tc) pq) from if_pos h35] at ih'; exact ih' _) | (simp only [show sEasy (d (p + 3)) (tk d p) tc (d a 1) pq (k + 1) = sEasy (d (p + 3)) (tk d p) tc (d a 1) pq k from if_neg (fun q => q h35)] at ih'; exact ih' _)
        · intro h35
          refine wp_iload rfl rfl ?_
          refine wp_istore_n rfl (by decide) ?_
          refine wp_iload rfl rfl ?_
          refine wp_istore_n rfl (by decide) ?_
          refine wp_inc rfl rfl (by decide) ?_
          refine wp_goto (tgt := 8) rfl (by decide) ?_
          first | (simp only [show sEasy (d (p + 3)) (tk d p) tc (d a 1) pq (k + 1) = (nI k, sNote (tk d p) (nI k) (d a 1) tc (sFree (d (p + 3) k) (tk d p) (nI k) tc) pq) from if_pos h35] at ih'; exact ih' _) | (simp only [show sEasy (d (p + 3)) (tk d p) tc (d a 1) pq (k + 1) = sEasy (d (p + 3)) (tk d p) tc (d a 1) pq k from if_neg (fun q => q h35)] at ih'; exact ih' _)
  refine wp_iconst (v := -1) rfl (by decide) ?_
  refine wp_istore_n rfl (by decide) ?_
  refine wp_bipush (v := 21) rfl (by decide) ?_
  refine wp_istore_n rfl (by decide) ?_
  refine wp_iconst (v := 0) rfl (by decide) ?_
  refine wp_istore rfl (by decide) ?_
  exact loop wc 0 _ d (by omega) (fun _ _ => rfl)
theorem c_tryToBegin {t u pq : Nat} (hs : sc kd r p) (htc : d p 7 = nI tc) (h20 : tc ≤ 20) (hwc : d p 6 = nI wc) (h6 : wc ≤ 6) (ht : t < tc) (hu4 : d (p + 7 + t) 0 = nI u) (h4u : u < 4) (hpq : d (p + 7 + t) 2 = nI pq) (h4 : pq ≤ 4) : Cl X kX3_tryToBegin [.inr (some p), .inr (some (p + 7 + t))] (K, z, kd, d, r) (fun rv M' => ∃ d', M' = (K, z, kd, d', r) ∧ (∀ q, q ≠ p + 6 → (q < p + 7 ∨ p + 27 ≤ q) → d' q = d q) ∧ ((sTry (d (p + 1)) (d (p + 3)) (tk d p) wc tc t = none ∧ rv = some (.inl 0) ∧ tk d' p = tk d p) ∨ (∃ g', sTry (d (p + 1)) (d (p + 3)) (tk d p) wc tc t = some g' ∧ rv = some (.inl 1) ∧ tk d' p = g'))) := by
  have hs0 := hs
  obtain ⟨k0, r0, r1, r2, r3, r4, r5, k1, k2, k3, k4, k5, k6, rt, kt, hp⟩ := hs
  have ka : kd (p + 7 + t) = some (.inl 4) := kt t (by omega)
  refine h_ofWp oX3_tryToBegin (by decide) (Nat.le_of_ble_eq_true rfl) ?_
  have eq1 : (tk d p t 0).toNatClampNeg = u := by show (d (p + 7 + t) 0).toNatClampNeg = u; rw [hu4]; exact nI_clamp (by omega)
  have eq2 : (tk d p t 2).toNatClampNeg = pq := by show (d (p + 7 + t) 2).toNatClampNeg = pq; rw [hpq]; exact nI_clamp (by omega)
  generalize hQ : (fun (rv : Option hV) (M' : hM) => ∃ d', M' = (K, z, kd, d', r) ∧ (∀ q, q ≠ p + 6 → (q < p + 7 ∨ p + 27 ≤ q) → d' q = d q) ∧ ((sTry (d (p + 1)) (d (p + 3)) (tk d p) wc tc t = none ∧ rv = some (.inl 0) ∧ tk d' p = tk d p) ∨ (∃ g', sTry (d (p + 1)) (d (p + 3)) (tk d p) wc tc t = some g' ∧ rv = some (.inl 1) ∧ tk d' p = g'))) = Q
  have no : ¬ sMay (d (p + 1)) (tk d p) tc t → Q (some (.inl 0)) (K, z, kd, d, r) := fun h => by
    subst hQ
    exact ⟨d, rfl, fun _ _ _ => rfl, Or.inl ⟨sTry_not h, rfl, rfl⟩⟩
  have main : sMay (d (p + 1)) (tk d p) tc t → Wp X kX3_tryToBegin K z 64 [some (.inr (some p)), some (.inr (some (p + 7 + t))), some (.inl 1), none, none, none] [] (K, z, kd, d, r) Q := by
    intro hm
    subst hQ
    have hT := sTry_may (cap := d (p + 3)) (wc := wc) hm
    rw [eq2] at hT
    refine wp_aload_n rfl rfl ?_
    refine wp_aload_n rfl rfl ?_
    refine st_getI rfl fX3_107 rfl (by assumption) rfl ?_
    refine wp_V1 rfl mX3_tryToBegin_139 (k0) (Nat.le_of_ble_eq_true rfl) (c_bestFit hs0 htc h20 hwc h6) ?_
    rintro _ _ ⟨rfl, rfl⟩
    refine wp_istore_n rfl (by decide) ?_
    refine wp_iload_n rfl rfl ?_
    refine wp_iconst (v := -1) rfl (by decide) ?_
    refine wp_icmp_ne (tgt := 143) rfl (by decide) ?_ ?_
    · intro h
      rw [if_neg (show ¬ (sBest (d (p + 3)) (tk d p) tc (tk d p t 1) wc).1 = -1 from h)] at hT
      refine wp_aload_n rfl rfl ?_
      refine wp_iload_n rfl rfl ?_
      refine wp_V1 rfl mX3_tryToBegin_153 (ka) (Nat.le_of_ble_eq_true rfl) (c_beginOn ka) ?_
      rintro _ _ ⟨rfl, rfl⟩
      refine wp_iconst (v := 1) rfl (by decide) ?_
      refine wp_ireturn rfl .boolean rfl rfl ?_
      refine ⟨_, rfl, fun q h1 h2 => ?_, Or.inr ⟨_, hT, rfl, ?_⟩⟩
      · funext i
        rw [hu_n (by omega), hu_n (by omega), hu_n (by omega)]
      · rw [tk_hu, tk_hu, tk_hu]
        rfl
    · intro h
      rw [if_pos (show (sBest (d (p + 3)) (tk d p) tc (tk d p t 1) wc).1 = -1 from h)] at hT
      refine wp_aload_n rfl rfl ?_
      refine wp_aload_n rfl rfl ?_
      refine wp_V1 rfl mX3_tryToBegin_142 (k0) (Nat.le_of_ble_eq_true rfl) (c_easiest hs0 htc h20 hwc h6 ka (by omega) hpq h4) ?_
      rintro _ _ ⟨rfl, d1, rfl, hd1⟩
      have hok := (sEasy_ok (d (p + 3)) (tk d p) tc (tk d p t 1) pq wc).2
      refine wp_istore_n rfl (by decide) ?_
      refine wp_iload_n rfl rfl ?_
      refine wp_iconst (v := -1) rfl (by decide) ?_
      refine wp_icmp_ne (tgt := 91) rfl (by decide) ?_ ?_
      · intro h2
        rw [if_neg (show ¬ (sEasy (d (p + 3)) (tk d p) tc (tk d p t 1) pq wc).1 = -1 from h2)] at hT
        rcases hok with hok | ⟨w, hw, ew, ec, e21⟩
        · exact absurd hok.1 h2
        have ew' : (sEasy (d (p + 3)) (tk d p) tc (d (p + 7 + t) 1) pq wc).1 = nI w := ew
        rw [ew, nI_clamp (show w < 2 ^ 31 by omega)] at hT
        rw [ew']
        rw [ec, sNote] at e21
        have htk : tk d1 p = tk d p := by
          funext t' j
          exact congrFun (hd1 (p + 7 + t') (by omega)) j
        have e7 : d1 p 7 = nI tc := (congrFun (hd1 p (by omega)) 7).trans htc
        have e3 : d1 (p + 7 + t) 2 = nI pq := (congrFun (hd1 _ (by omega)) 2).trans hpq
        have e1 : d1 (p + 3) w = d (p + 3) w := congrFun (hd1 (p + 3) (by omega)) w
        have e4 : d1 (p + 7 + t) 1 = tk d p t 1 := congrFun (hd1 (p + 7 + t) (by omega)) 1
        refine wp_aload_n rfl rfl ?_
        refine wp_iload_n rfl rfl ?_
        refine wp_aload_n rfl rfl ?_
        refine wp_aload_n rfl rfl ?_
        refine wp_iload_n rfl rfl ?_
        refine wp_V1 rfl mX3_tryToBegin_146 (k0) (Nat.le_of_ble_eq_true rfl) (c_freeOn hs0 e7 h20 (by omega)) ?_
        rintro _ _ ⟨rfl, rfl⟩
        refine wp_V3 rfl mX3_tryToBegin_149 (k0) (Nat.le_of_ble_eq_true rfl) (c_noteLeaving hs0 e7 h20 ka (by omega) e3 h4) ?_
        rintro _ _ ⟨rfl, rfl⟩
        rw [htk, e1, e4]
        have hrm : ¬ (sOut (tk d p) (nI w) (tk d p t 1) tc (sFree (d (p + 3) w) (tk d p) (nI w) tc) pq).1 < tk d p t 1 := fun hc => by
          rw [if_pos hc] at e21
          exact absurd e21 (by decide)
        rw [sNote, if_neg hrm]
        have hlen := sOut_len2 (tk d p) (nI w) (tk d p t 1) tc (sFree (d (p + 3) w) (tk d p) (nI w) tc) (q := pq) (by omega)
        have hmem := sOut_mem (tk d p) (nI w) (tk d p t 1) tc (sFree (d (p + 3) w) (tk d p) (nI w) tc) pq
        generalize (sOut (tk d p) (nI w) (tk d p t 1) tc (sFree (d (p + 3) w) (tk d p) (nI w) tc) pq).2 = l at hT hlen hmem ⊢
        have hl20 : ∀ x ∈ l, x < 20 := fun x hx => by have := (hmem x hx).1; omega
        have loop : ∀ l2 l1, l1 ++ l2 = l → Wp X kX3_tryToBegin K z 107 [some (.inr (some p)), some (.inr (some (p + 7 + t))), some (.inl 1), some (.inl (nI w)), some (.inl (nI l.length)), some (.inl (nI l1.length))] [] (K, z, kd, dEv (sLv d1 p l) p l1, r) (fun (rv : Option hV) (M' : hM) => ∃ d', M' = (K, z, kd, d', r) ∧ (∀ q, q ≠ p + 6 → (q < p + 7 ∨ p + 27 ≤ q) → d' q = d q) ∧ ((sTry (d (p + 1)) (d (p + 3)) (tk d p) wc tc t = none ∧ rv = some (.inl 0) ∧ tk d' p = tk d p) ∨ (∃ g', sTry (d (p + 1)) (d (p + 3)) (tk d p) wc tc t = some g' ∧ rv = some (.inl 1) ∧ tk d' p = g'))) := by
          intro l2
          induction l2 with
          | nil =>
            intro l1 e
            rw [List.append_nil] at e
            subst e
            refine wp_iload rfl rfl ?_
            refine wp_iload rfl rfl ?_
            refine wp_icmp_ge (tgt := 143) rfl (by decide) ?_ ?_
            · intro _
              refine wp_aload_n rfl rfl ?_
              refine wp_iload_n rfl rfl ?_
              refine wp_V1 rfl mX3_tryToBegin_153 (ka) (Nat.le_of_ble_eq_true rfl) (c_beginOn ka) ?_
              rintro _ _ ⟨rfl, rfl⟩
              refine wp_iconst (v := 1) rfl (by decide) ?_
              refine wp_ireturn rfl .boolean rfl rfl ?_
              refine ⟨_, rfl, fun q h1 h2 => ?_, Or.inr ⟨_, hT, rfl, ?_⟩⟩
              · funext i
                rw [hu_n (by omega), hu_n (by omega), hu_n (by omega), dEv_n p l1 _ q hl20 h2, sLv_n h1, hd1 q h1]
              · rw [tk_hu, tk_hu, tk_hu, dEv_tk, sLv_tk, htk]
                rw [show dEv (sLv d1 p l1) p l1 (p + 7 + t) 5 = gEv (tk d p) l1 t 5 by
                  have h9 := congrFun (congrFun (dEv_tk p l1 (sLv d1 p l1)) t) 5
                  rw [sLv_tk, htk] at h9
                  exact h9]
                rfl
            · intro hc
              exact absurd (nI_le (Nat.le_refl _) (by omega)) hc
          | cons x l2 ih =>
            intro l1 e
            have hlt : l1.length < l.length := by rw [← e]; simp
            have hx : l[l1.length]? = some x := by rw [← e]; simp
            have hxm : x ∈ l := List.mem_of_getElem? hx
            have hx20 := hl20 x hxm
            have hl1 : ∀ y ∈ l1, y < 20 := fun y hy => hl20 y (by rw [← e]; exact List.mem_append_left _ hy)
            have elv : dEv (sLv d1 p l) p l1 (p + 6) l1.length = nI x := by
              rw [dEv_n p l1 _ (p + 6) hl1 (by omega)]
              simp [sLv, hx]
            refine wp_iload rfl rfl ?_
            refine wp_iload rfl rfl ?_
            refine wp_icmp_ge (tgt := 143) rfl (by decide) ?_ ?_
            · intro hc
              exact absurd hc (nI_ge hlt (by omega))
            · intro _
              refine wp_iload rfl rfl ?_
              refine wp_bipush (v := 20) rfl (by decide) ?_
              refine wp_icmp_ge (tgt := 143) rfl (by decide) ?_ ?_
              · intro hc
                exact absurd hc (nI_ge (b := 20) (by omega) (by omega))
              · intro _
                refine wp_aload_n rfl rfl ?_
                refine st_getR rfl fX3_21 rfl (by assumption) (by assumption) ?_
                refine wp_aload_n rfl rfl ?_
                refine st_getR rfl fX3_29 rfl (by assumption) (by assumption) ?_
                refine wp_iload rfl rfl ?_
                refine st_iald rfl (by assumption) rfl ((by omega : l1.length < 20)) (by decide) (elv) ?_
                refine st_aald (t0 := 4) rfl (by assumption) rfl rfl (by omega) (by decide) (rt _ (by omega)) ?_
                refine wp_iconst (v := 0) rfl (by decide) ?_
                refine wp_V1 rfl mX3_tryToBegin_122 (kt _ (by omega)) (Nat.le_of_ble_eq_true rfl) (c_leave (kt _ (by omega))) ?_
                rintro _ _ ⟨rfl, rfl⟩
                refine wp_inc rfl rfl (by decide) ?_
                refine wp_goto (tgt := 107) rfl (by decide) ?_
                have := ih (l1 ++ [x]) (by rw [List.append_assoc]; exact e)
                rw [dEv_app, List.length_append] at this
                exact this
        refine wp_istore rfl (by decide) ?_
        refine wp_iconst (v := 0) rfl (by decide) ?_
        refine wp_istore rfl (by decide) ?_
        exact loop l [] rfl
      · intro h2
        rw [if_pos (show (sEasy (d (p + 3)) (tk d p) tc (tk d p t 1) pq wc).1 = -1 from h2)] at hT
        refine wp_iconst (v := 0) rfl (by decide) ?_
        refine wp_ireturn rfl .boolean rfl rfl ?_
        refine ⟨d1, rfl, fun q h1 _ => hd1 q h1, Or.inl ⟨hT, rfl, ?_⟩⟩
        funext t' j
        exact congrFun (hd1 (p + 7 + t') (by omega)) j
  refine wp_aload_n rfl rfl ?_
  refine wp_aload_n rfl rfl ?_
  refine st_getI rfl fX3_113 rfl (by assumption) rfl ?_
  refine wp_V1 rfl mX3_tryToBegin_101 (k0) (Nat.le_of_ble_eq_true rfl) (c_isTask k0 htc (by omega)) ?_
  rintro _ _ ⟨v, rfl, rfl, hv⟩
  have quota : sBf (tk d p) tc t → Wp X kX3_tryToBegin K z 27 [some (.inr (some p)), some (.inr (some (p + 7 + t))), none, none, none, none] [] (K, z, kd, d, r) Q := by
    intro hbf
    refine wp_aload_n rfl rfl ?_
    refine wp_aload_n rfl rfl ?_
    refine st_getI rfl fX3_104 rfl (by assumption) rfl ?_
    refine wp_V1 rfl mX3_tryToBegin_90 (k0) (Nat.le_of_ble_eq_true rfl) (c_usedBy hs0 htc h20) ?_
    rintro _ _ ⟨rfl, rfl⟩
    refine wp_aload_n rfl rfl ?_
    refine st_getI rfl fX3_107 rfl (by assumption) rfl ?_
    refine wp_iadd rfl ?_
    refine wp_aload_n rfl rfl ?_
    refine st_getR rfl fX3_9 rfl (by assumption) (by assumption) ?_
    refine wp_aload_n rfl rfl ?_
    refine st_getI rfl fX3_104 rfl (by assumption) rfl ?_
    refine st_iald rfl (by assumption) (hu4) (h4u) (by decide) rfl ?_
    refine wp_icmp_gt (tgt := 56) rfl (by decide) ?_ ?_
    · intro h
      refine wp_iconst (v := 0) rfl (by decide) ?_
      refine wp_istore_n rfl (by decide) ?_
      refine wp_iload_n rfl rfl ?_
      refine wp_if_ne (tgt := 64) rfl (by decide) ?_ ?_
      · intro hc
        exact absurd rfl hc
      · intro _
        refine wp_iconst (v := 0) rfl (by decide) ?_
        refine wp_ireturn rfl .boolean rfl rfl ?_
        exact no (fun hm => hm.2 (by rw [eq1]; exact h))
    · intro h
      refine wp_iconst (v := 1) rfl (by decide) ?_
      refine wp_goto (tgt := 57) rfl (by decide) ?_
      refine wp_istore_n rfl (by decide) ?_
      refine wp_iload_n rfl rfl ?_
      refine wp_if_ne (tgt := 64) rfl (by decide) ?_ ?_
      · intro _
        exact main ⟨hbf, by rw [eq1]; exact h⟩
      · intro hc
        exact absurd hc (by decide)
  rcases hv with ⟨rfl, j, -, hj, ej⟩ | ⟨rfl, hj⟩
  · refine wp_if_eq (tgt := 27) rfl (by decide) ?_ ?_
    · intro hc
      exact absurd hc (by decide)
    · intro _
      refine wp_aload_n rfl rfl ?_
      refine st_getR rfl fX3_21 rfl (by assumption) (by assumption) ?_
      refine wp_aload_n rfl rfl ?_
      refine st_getI rfl fX3_113 rfl (by assumption) rfl ?_
      refine st_aald (t0 := 4) rfl (by assumption) rfl (ej) (by omega) (by decide) (rt j (by omega)) ?_
      refine st_getI rfl fX3_116 rfl (kt j (by omega)) rfl ?_
      refine wp_iconst (v := 2) rfl (by decide) ?_
      refine wp_icmp_ne (tgt := 56) rfl (by decide) ?_ ?_
      · intro h
        refine wp_iconst (v := 0) rfl (by decide) ?_
        refine wp_istore_n rfl (by decide) ?_
        refine wp_iload_n rfl rfl ?_
        refine wp_if_ne (tgt := 64) rfl (by decide) ?_ ?_
        · intro hc
          exact absurd rfl hc
        · intro _
          refine wp_iconst (v := 0) rfl (by decide) ?_
          refine wp_ireturn rfl .boolean rfl rfl ?_
          exact no (fun hm => h (hm.1 j hj ej))
      · intro h
        exact quota (fun i hi ei => by
          have e1 : nI j = nI i := ej.symm.trans ei
          have e2 := (nI_eq (by omega) (by omega)).mp e1
          subst e2
          exact h)
  · refine wp_if_eq (tgt := 27) rfl (by decide) ?_ ?_
    · intro _
      exact quota (fun i hi ei => absurd ei (hj i (Nat.zero_le _) hi))
    · intro hc
      exact absurd rfl hc
end BEGIN
