/-! A SCHEDULER AS IT CAN BE: loads, uses, and that orders keep it so -/
theorem nI_m1 {w : Nat} (h : w < 1000) : ¬ (-1 : Int32) = nI w := fun e => by
  have := congrArg Int32.toInt e
  rw [i_nI (by omega), show (-1 : Int32).toInt = -1 by decide] at this
  omega
/-- what runs on a worker, what a user uses -/
def ld (g : Nat → Nat → Int32) (w : Nat) : Nat → Nat
  | 0 => 0
  | k + 1 => if g k 6 = nI w then ld g w k + (g k 1).toNatClampNeg else ld g w k
def us (g : Nat → Nat → Int32) (u : Nat) : Nat → Nat
  | 0 => 0
  | k + 1 => if g k 0 = nI u ∧ g k 4 = 1 then us g u k + (g k 1).toNatClampNeg else us g u k
theorem ld_le (g : Nat → Nat → Int32) (w : Nat) : ∀ k, (∀ t, t < k → inR (g t 1) 1 21) → ld g w k ≤ 20 * k := by
  intro k
  induction k with
  | zero => intro _; exact Nat.le_refl _
  | succ k ih =>
    intro h
    have h1 := ih (fun t ht => h t (by omega))
    have h2 := (inR_n (h k (by omega)) (by omega)).2.1
    simp only [ld]
    split <;> omega
theorem us_le (g : Nat → Nat → Int32) (u : Nat) : ∀ k, (∀ t, t < k → inR (g t 1) 1 21) → us g u k ≤ 20 * k := by
  intro k
  induction k with
  | zero => intro _; exact Nat.le_refl _
  | succ k ih =>
    intro h
    have h1 := ih (fun t ht => h t (by omega))
    have h2 := (inR_n (h k (by omega)) (by omega)).2.1
    simp only [us]
    split <;> omega
theorem sFree_int {g : Nat → Nat → Int32} {w c : Nat} (hc : c ≤ 20) : ∀ k, k ≤ 20 → (∀ t, t < k → inR (g t 1) 1 21) → (sFree (nI c) g (nI w) k).toInt = (c : Int) - ld g w k := by
  intro k
  induction k with
  | zero => intro _ _; simp only [sFree, ld]; rw [i_nI (by omega)]; omega
  | succ k ih =>
    intro hk h
    have h1 := ih (by omega) (fun t ht => h t (by omega))
    have h2 := ld_le g w k (fun t ht => h t (by omega))
    obtain ⟨-, h3, h4⟩ := inR_n (h k (by omega)) (by omega)
    simp only [sFree, ld]
    split
    · have e1 : (g k 1).toInt = ((g k 1).toNatClampNeg : Int) := by
        conv => lhs; rw [h4]
        exact i_nI (by omega)
      rw [i_sub (by rw [h1, e1]; omega) (by rw [h1, e1]; omega), h1, e1]
      omega
    · exact h1
theorem sUsed_eq {g : Nat → Nat → Int32} {u : Nat} : ∀ k, (∀ t, t < k → inR (g t 1) 1 21) → sUsed g (nI u) k = nI (us g u k) := by
  intro k
  induction k with
  | zero => intro _; rfl
  | succ k ih =>
    intro h
    have h1 := ih (fun t ht => h t (by omega))
    obtain ⟨-, h3, h4⟩ := inR_n (h k (by omega)) (by omega)
    simp only [sUsed, us]
    split
    · rw [h1]
      conv => lhs; rw [h4]
      exact nI_add _ _
    · exact h1
/-- one task changes where it is, or how it stands -/
theorem ld_one {g g' : Nat → Nat → Int32} {x w : Nat} (h1 : ∀ t, t ≠ x → g' t = g t) (h2 : g' x 1 = g x 1) : ∀ k, ld g' w k + (if x < k ∧ g x 6 = nI w then (g x 1).toNatClampNeg else 0) = ld g w k + (if x < k ∧ g' x 6 = nI w then (g x 1).toNatClampNeg else 0) := by
  intro k
  induction k with
  | zero => simp [ld]
  | succ k ih =>
    by_cases e : k = x
    · subst e
      rw [if_neg (fun q => absurd q.1 (by omega)), if_neg (fun q => absurd q.1 (by omega))] at ih
      simp only [ld, h2]
      by_cases a : g' k 6 = nI w
      · by_cases b : g k 6 = nI w
        · rw [if_pos a, if_pos b, if_pos ⟨by omega, b⟩, if_pos ⟨by omega, a⟩]; omega
        · rw [if_pos a, if_neg b, if_neg (fun q => b q.2), if_pos ⟨by omega, a⟩]; omega
      · by_cases b : g k 6 = nI w
        · rw [if_neg a, if_pos b, if_pos ⟨by omega, b⟩, if_neg (fun q => a q.2)]; omega
        · rw [if_neg a, if_neg b, if_neg (fun q => b q.2), if_neg (fun q => a q.2)]; omega
    · simp only [ld, h1 k e]
      have hx : ∀ p : Prop, (x < k + 1 ∧ p) ↔ (x < k ∧ p) := fun p => ⟨fun q => ⟨by have := q.1; omega, q.2⟩, fun q => ⟨by have := q.1; omega, q.2⟩⟩
      simp only [hx]
      split <;> omega
theorem us_one {g g' : Nat → Nat → Int32} {x u : Nat} (h1 : ∀ t, t ≠ x → g' t = g t) (h2 : g' x 1 = g x 1) (h3 : g' x 0 = g x 0) : ∀ k, us g' u k + (if x < k ∧ g x 0 = nI u ∧ g x 4 = 1 then (g x 1).toNatClampNeg else 0) = us g u k + (if x < k ∧ g x 0 = nI u ∧ g' x 4 = 1 then (g x 1).toNatClampNeg else 0) := by
  intro k
  induction k with
  | zero => simp [us]
  | succ k ih =>
    by_cases e : k = x
    · subst e
      rw [if_neg (fun q => absurd q.1 (by omega)), if_neg (fun q => absurd q.1 (by omega))] at ih
      simp only [us, h2, h3]
      by_cases a : g k 0 = nI u ∧ g' k 4 = 1
      · by_cases b : g k 0 = nI u ∧ g k 4 = 1
        · rw [if_pos a, if_pos b, if_pos ⟨by omega, b⟩, if_pos ⟨by omega, a⟩]; omega
        · rw [if_pos a, if_neg b, if_neg (fun q => b q.2), if_pos ⟨by omega, a⟩]; omega
      · by_cases b : g k 0 = nI u ∧ g k 4 = 1
        · rw [if_neg a, if_pos b, if_pos ⟨by omega, b⟩, if_neg (fun q => a q.2)]; omega
        · rw [if_neg a, if_neg b, if_neg (fun q => b q.2), if_neg (fun q => a q.2)]; omega
    · simp only [us, h1 k e]
      have hx : ∀ p : Prop, (x < k + 1 ∧ p) ↔ (x < k ∧ p) := fun p => ⟨fun q => ⟨by have := q.1; omega, q.2⟩, fun q => ⟨by have := q.1; omega, q.2⟩⟩
      simp only [hx]
      split <;> omega
/-- a scheduler as it can be: tasks' numbers in range, those that do not run are nowhere, workers hold their capacity, users their bound -/
def sTk (S : Sch) (t : Nat) : Prop := (¬ S.2.2.2.2.1 t 4 = 1 → S.2.2.2.2.1 t 6 = -1) ∧ (S.2.2.2.2.1 t 4 = 1 → ∃ w, w < S.1 ∧ S.2.2.2.2.1 t 6 = nI w) ∧ (S.2.2.2.2.1 t 4 = 0 ∨ S.2.2.2.2.1 t 4 = 1 ∨ S.2.2.2.2.1 t 4 = 2 ∨ S.2.2.2.2.1 t 4 = 3) ∧ (S.2.2.2.2.1 t 3 = -1 ∨ inR (S.2.2.2.2.1 t 3) 0 S.2.1) ∧ inR (S.2.2.2.2.1 t 1) 1 21
def sWf (S : Sch) : Prop := sOk S ∧ (∀ t, t < S.2.1 → sTk S t) ∧
  (∀ t, S.2.1 ≤ t → t < 20 → S.2.2.2.2.1 t 4 = 0 ∧ S.2.2.2.2.1 t 5 = 0 ∧ S.2.2.2.2.1 t 6 = -1 ∧ S.2.2.2.2.1 t 7 = 0) ∧
  (∀ w, w < S.1 → ∃ c, 1 ≤ c ∧ c ≤ 20 ∧ S.2.2.2.1 w = nI c ∧ ld S.2.2.2.2.1 w S.2.1 ≤ c) ∧
  (∀ u, u < 4 → ∃ q b, q ≤ 60 ∧ q ≤ b ∧ b ≤ 1000 ∧ S.2.2.1 u = nI q ∧ S.2.2.2.2.2 u = nI b ∧ us S.2.2.2.2.1 u S.2.1 ≤ b)
theorem sWf_need {S : Sch} (h : sWf S) : ∀ t, t < S.2.1 → inR (S.2.2.2.2.1 t 1) 1 21 := fun t ht => (h.2.1 t ht).2.2.2.2
theorem sWf_free {S : Sch} (h : sWf S) : ∀ w, w < S.1 → 0 ≤ (sFree (S.2.2.2.1 w) S.2.2.2.2.1 (nI w) S.2.1).toInt ∧ (sFree (S.2.2.2.1 w) S.2.2.2.2.1 (nI w) S.2.1).toInt ≤ 20 := by
  intro w hw
  obtain ⟨c, c1, c2, c3, c4⟩ := h.2.2.2.1 w hw
  rw [c3, sFree_int c2 _ h.1.2.1 (sWf_need h)]
  omega
theorem sWf_bd {S : Sch} (h : sWf S) : ∀ u, u < 4 → sUsed S.2.2.2.2.1 (nI u) S.2.1 ≤ S.2.2.2.2.2 u := by
  intro u hu4
  obtain ⟨q, b, h1, h2, h3, h4, h5, h6⟩ := h.2.2.2.2 u hu4
  rw [h5, sUsed_eq _ (sWf_need h)]
  exact nI_le h6 (by omega)
/-- one task's standing changes, and stays as it can be -/
theorem sWf_one {wc tc x : Nat} {quo cap bd : Nat → Int32} {g g' : Nat → Nat → Int32} (h : sWf (wc, tc, quo, cap, g, bd)) (hx : x < tc) (h1 : ∀ t, t ≠ x → g' t = g t) (h2 : ∀ j, j < 4 → g' x j = g x j) (ht : (¬ g' x 4 = 1 → g' x 6 = -1) ∧ (g' x 4 = 1 → ∃ w, w < wc ∧ g' x 6 = nI w) ∧ (g' x 4 = 0 ∨ g' x 4 = 1 ∨ g' x 4 = 2 ∨ g' x 4 = 3))
    (hl : ∀ w, w < wc → g' x 6 = nI w → ¬ g x 6 = nI w → ∃ c, c ≤ 20 ∧ cap w = nI c ∧ ld g w tc + (g x 1).toNatClampNeg ≤ c) (hb : ∀ u, u < 4 → g x 0 = nI u → g' x 4 = 1 → ¬ g x 4 = 1 → ∃ q, q ≤ 60 ∧ quo u = nI q ∧ us g u tc + (g x 1).toNatClampNeg ≤ q) : sWf (wc, tc, quo, cap, g', bd) := by
  obtain ⟨⟨o1, o2, o3⟩, a, b, c, e⟩ := h
  dsimp only at o1 o2 o3 a b c e
  have row : ∀ t, t < tc → ∀ j, j < 4 → g' t j = g t j := fun t _ j hj => by
    by_cases q : t = x
    · subst q; exact h2 j hj
    · rw [h1 t q]
  refine ⟨⟨o1, o2, fun t ht2 => ?_⟩, fun t ht2 => ?_, fun t q1 q2 => ?_, fun w hw => ?_, fun u hu4 => ?_⟩
  · show (∃ u, u < 4 ∧ g' t 0 = nI u) ∧ ∃ q, q < 4 ∧ g' t 2 = nI q
    rw [row t ht2 0 (by omega), row t ht2 2 (by omega)]
    exact o3 t ht2
  · by_cases q : t = x
    · subst q
      refine ⟨ht.1, ht.2.1, ht.2.2, ?_, ?_⟩
      · show g' t 3 = -1 ∨ inR (g' t 3) 0 tc
        rw [h2 3 (by omega)]; exact (a t ht2).2.2.2.1
      · show inR (g' t 1) 1 21
        rw [h2 1 (by omega)]; exact (a t ht2).2.2.2.2
    · have := a t ht2
      unfold sTk at this ⊢
      dsimp only at this ⊢
      rw [h1 t q]
      exact this
  · have := b t q1 q2
    show g' t 4 = 0 ∧ g' t 5 = 0 ∧ g' t 6 = -1 ∧ g' t 7 = 0
    rw [h1 t (by have : tc ≤ t := q1; omega)]
    exact this
  · obtain ⟨k, k1, k2, k3, k4⟩ := c w hw
    refine ⟨k, k1, k2, k3, ?_⟩
    have hone := ld_one (w := w) h1 (h2 1 (by omega)) tc
    show ld g' w tc ≤ k
    have k4' : ld g w tc ≤ k := k4
    by_cases p1 : g' x 6 = nI w
    · rw [if_pos (show x < tc ∧ g' x 6 = nI w from ⟨hx, p1⟩)] at hone
      by_cases p0 : g x 6 = nI w
      · rw [if_pos ⟨hx, p0⟩] at hone
        omega
      · rw [if_neg (fun q => p0 q.2)] at hone
        obtain ⟨c', c1, c2, c3⟩ := hl w hw p1 p0
        have : c' = k := (nI_eq (by omega) (by omega)).mp (by rw [← c2]; exact k3)
        omega
    · rw [if_neg (fun q : x < tc ∧ g' x 6 = nI w => p1 q.2)] at hone
      omega
  · obtain ⟨q, k, k1, k2, k3, k4, k5, k6⟩ := e u hu4
    refine ⟨q, k, k1, k2, k3, k4, k5, ?_⟩
    have hone := us_one (u := u) h1 (h2 1 (by omega)) (h2 0 (by omega)) tc
    show us g' u tc ≤ k
    have k6' : us g u tc ≤ k := k6
    by_cases p1 : g x 0 = nI u ∧ g' x 4 = 1
    · rw [if_pos (show x < tc ∧ g x 0 = nI u ∧ g' x 4 = 1 from ⟨hx, p1⟩)] at hone
      by_cases p0 : g x 4 = 1
      · rw [if_pos ⟨hx, p1.1, p0⟩] at hone
        omega
      · rw [if_neg (fun q => p0 q.2.2)] at hone
        obtain ⟨c', c1, c2, c3⟩ := hb u hu4 p1.1 p1.2 p0
        have : c' = q := (nI_eq (by omega) (by omega)).mp (by rw [← c2]; exact k4)
        omega
    · rw [if_neg (fun q : x < tc ∧ g x 0 = nI u ∧ g' x 4 = 1 => p1 q.2)] at hone
      omega
/-- a task leaves its worker -/
theorem sWf_off {wc tc x : Nat} {quo cap bd : Nat → Int32} {g : Nat → Nat → Int32} {s : Int32} (h : sWf (wc, tc, quo, cap, g, bd)) (hx : x < tc) (hs : s = 0 ∨ s = 2 ∨ s = 3) : sWf (wc, tc, quo, cap, hu (hu g x 4 s) x 6 (-1), bd) := by
  have hs1 : ¬ s = 1 := by rcases hs with rfl | rfl | rfl <;> decide
  have e4 : hu (hu g x 4 s) x 6 (-1) x 4 = s := by rw [hu_n (by omega), hu_s]
  have e6 : hu (hu g x 4 s) x 6 (-1) x 6 = -1 := hu_s
  refine sWf_one h hx (fun t ht => by rw [row_n ht, row_n ht]) (fun j hj => by rw [hu_n (by omega), hu_n (by omega)]) ?_ ?_ ?_
  · rw [e4, e6]
    exact ⟨fun _ => rfl, fun q => absurd q hs1, by rcases hs with rfl | rfl | rfl <;> simp⟩
  · intro w hw q
    rw [e6] at q
    exact absurd q (nI_m1 (by have := h.1.1; dsimp only at this; omega))
  · intro u _ _ q
    rw [e4] at q
    exact absurd q hs1
/-- a task begins -/
theorem sWf_on {wc tc x w0 : Nat} {quo cap bd : Nat → Int32} {g : Nat → Nat → Int32} (h : sWf (wc, tc, quo, cap, g, bd)) (hx : x < tc) (hw : w0 < wc) (hroom : ¬ sFree (cap w0) g (nI w0) tc < g x 1) (hq : ¬ quo (g x 0).toNatClampNeg < sUsed g (g x 0) tc + g x 1) : sWf (wc, tc, quo, cap, gBeg g x (nI w0), bd) := by
  have e4 : gBeg g x (nI w0) x 4 = 1 := by rw [gBeg, hu_n (by omega), hu_n (by omega), hu_s]
  have e6 : gBeg g x (nI w0) x 6 = nI w0 := by rw [gBeg, hu_n (by omega), hu_s]
  have hwc := h.1.1
  have htc := h.1.2.1
  dsimp only at hwc htc
  have hnd' : ∀ t, t < tc → inR (g t 1) 1 21 := sWf_need h
  have hnd := hnd' x hx
  obtain ⟨n1, n2, n3⟩ := inR_n hnd (by omega)
  refine sWf_one h hx (fun t ht => by rw [gBeg, row_n ht, row_n ht, row_n ht]) (fun j hj => by rw [gBeg, hu_n (by omega), hu_n (by omega), hu_n (by omega)]) ?_ ?_ ?_
  · rw [e4, e6]
    exact ⟨fun q => absurd rfl q, fun _ => ⟨w0, hw, rfl⟩, Or.inr (Or.inl rfl)⟩
  · intro w hww q _
    rw [e6] at q
    have : w0 = w := (nI_eq (by omega) (by omega)).mp q
    subst this
    obtain ⟨c, c1, c2, c3, c4⟩ := h.2.2.2.1 w0 hw
    dsimp only at c3 c4
    refine ⟨c, c2, c3, ?_⟩
    rw [c3, i_lt, sFree_int c2 tc htc hnd', n3, i_nI (by omega)] at hroom
    omega
  · intro u hu4 eu _ _
    obtain ⟨q, b, q1, q2, q3, q4, q5, q6⟩ := h.2.2.2.2 u hu4
    dsimp only at q4 q5 q6
    refine ⟨q, q1, q4, ?_⟩
    have hul := us_le g u tc hnd'
    rw [eu, nI_clamp (by omega), q4, sUsed_eq _ hnd', n3, nI_add, i_lt, i_nI (by omega), i_nI (by omega)] at hq
    omega
