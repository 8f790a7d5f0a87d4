/-! WHAT THE SCHEDULER DOES RESTS ON ITS FIRST 20 TASKS ALONE -/
def gQ (g g' : Nat → Nat → Int32) : Prop := ∀ t, t < 20 → g t = g' t
theorem gQ_hu {g g' : Nat → Nat → Int32} (h : gQ g g') (t j : Nat) (x : Int32) : gQ (hu g t j x) (hu g' t j x) := by
  intro s hs
  funext i
  simp only [hu, h s hs]
section CONG
variable {g g' : Nat → Nat → Int32} {quo cap : Nat → Int32} {wc tc : Nat}
theorem q_free (h : gQ g g') {c w : Int32} : ∀ k, k ≤ 20 → sFree c g w k = sFree c g' w k := by
  intro k
  induction k with
  | zero => intro _; rfl
  | succ k ih =>
    intro hk
    simp only [sFree, ih (by omega), h k (by omega)]
theorem q_used (h : gQ g g') {u : Int32} : ∀ k, k ≤ 20 → sUsed g u k = sUsed g' u k := by
  intro k
  induction k with
  | zero => intro _; rfl
  | succ k ih =>
    intro hk
    simp only [sUsed, ih (by omega), h k (by omega)]
theorem q_best (h : gQ g g') (ht : tc ≤ 20) {nd : Int32} : ∀ k, sBest cap g tc nd k = sBest cap g' tc nd k := by
  intro k
  induction k with
  | zero => rfl
  | succ k ih => simp only [sBest, ih, q_free h tc ht]
theorem q_in (h : gQ g g') {w q nd : Int32} : ∀ k, k ≤ 20 → ∀ s, sIn g w q nd k s = sIn g' w q nd k s := by
  intro k
  induction k with
  | zero => intro _ s; rfl
  | succ k ih =>
    intro hk s
    simp only [sIn, ih (by omega), h k (by omega)]
theorem q_out (h : gQ g g') (ht : tc ≤ 20) {w nd f : Int32} : ∀ q, sOut g w nd tc f q = sOut g' w nd tc f q := by
  intro q
  induction q with
  | zero => rfl
  | succ q ih => simp only [sOut, ih, q_in h tc ht]
theorem q_note (h : gQ g g') (ht : tc ≤ 20) {w nd f : Int32} {q : Nat} : sNote g w nd tc f q = sNote g' w nd tc f q := by
  simp only [sNote, q_out h ht]
theorem q_easy (h : gQ g g') (ht : tc ≤ 20) {nd : Int32} {q : Nat} : ∀ k, sEasy cap g tc nd q k = sEasy cap g' tc nd q k := by
  intro k
  induction k with
  | zero => rfl
  | succ k ih => simp only [sEasy, ih, q_free h tc ht, q_note h ht]
theorem q_ev (l : List Nat) : ∀ {g g' : Nat → Nat → Int32}, gQ g g' → gQ (gEv g l) (gEv g' l) := by
  induction l with
  | nil => intro g g' h; exact h
  | cons t l ih => intro g g' h; exact ih (gQ_hu (gQ_hu h t 4 0) t 6 (-1))
theorem q_beg (h : gQ g g') {t : Nat} (ht : t < 20) {w : Int32} : gQ (gBeg g t w) (gBeg g' t w) := by
  simp only [gBeg, h t ht]
  exact gQ_hu (gQ_hu (gQ_hu h _ _ _) _ _ _) _ _ _
theorem q_may (h : gQ g g') (ht : tc ≤ 20) {t : Nat} (htt : t < 20) : sMay quo g tc t ↔ sMay quo g' tc t := by
  simp only [sMay, sBf, h t htt, q_used h tc ht]
  constructor
  · rintro ⟨a, b⟩
    exact ⟨fun j hj e => by rw [← h j (by omega)]; exact a j hj e, b⟩
  · rintro ⟨a, b⟩
    exact ⟨fun j hj e => by rw [h j (by omega)]; exact a j hj e, b⟩
theorem q_try (h : gQ g g') (ht : tc ≤ 20) {t : Nat} (htt : t < 20) : (sTry quo cap g wc tc t = none ∧ sTry quo cap g' wc tc t = none) ∨ ∃ a b, sTry quo cap g wc tc t = some a ∧ sTry quo cap g' wc tc t = some b ∧ gQ a b := by
  by_cases hm : sMay quo g tc t
  · have hm' := (q_may (quo := quo) h ht htt).mp hm
    rw [sTry_may hm, sTry_may hm']
    simp only [h t htt, q_best h ht, q_easy h ht, q_free h tc ht, q_out h ht]
    split
    · split
      · exact Or.inl ⟨rfl, rfl⟩
      · exact Or.inr ⟨_, _, rfl, rfl, q_beg (q_ev _ h) htt⟩
    · exact Or.inr ⟨_, _, rfl, rfl, q_beg h htt⟩
  · rw [sTry_not hm, sTry_not (fun q => hm ((q_may h ht htt).mpr q))]
    exact Or.inl ⟨rfl, rfl⟩
theorem q_le (h : gQ g g') {w : Int32} : ∀ k, k ≤ 20 → gQ (sLe g w k).1 (sLe g' w k).1 ∧ (sLe g w k).2 = (sLe g' w k).2 := by
  intro k
  induction k with
  | zero => intro _; exact ⟨h, rfl⟩
  | succ k ih =>
    intro hk
    obtain ⟨h1, h2⟩ := ih (by omega)
    simp only [sLe, h1 k (by omega)]
    split
    · exact ⟨gQ_hu (gQ_hu h1 _ _ _) _ _ _, by rw [h2]⟩
    · exact ⟨h1, h2⟩
theorem q_pk {g0 g0' : Nat → Nat → Int32} (h0 : gQ g0 g0') (ht : tc ≤ 20) {q : Int32} : ∀ k, k ≤ 20 → ∀ s s' : (Nat → Nat → Int32) × Nat, gQ s.1 s'.1 → s.2 = s'.2 → gQ (sPk quo cap wc tc g0 q k s).1 (sPk quo cap wc tc g0' q k s').1 ∧ (sPk quo cap wc tc g0 q k s).2 = (sPk quo cap wc tc g0' q k s').2 := by
  intro k
  induction k with
  | zero => intro _ s s' h1 h2; exact ⟨h1, h2⟩
  | succ k ih =>
    intro hk s s' h1 h2
    obtain ⟨h3, h4⟩ := ih (by omega) s s' h1 h2
    simp only [sPk, h0 k (by omega), h3 k (by omega)]
    split
    · rcases q_try (quo := quo) (cap := cap) (wc := wc) h3 ht (t := k) (by omega) with ⟨a, b⟩ | ⟨a, b, c, e, f⟩
      · rw [a, b]
        exact ⟨h3, h4⟩
      · rw [c, e]
        exact ⟨f, by rw [h4]⟩
    · exact ⟨h3, h4⟩
theorem q_po (h : gQ g g') (ht : tc ≤ 20) : ∀ k, gQ (sPo quo cap wc tc g k).1 (sPo quo cap wc tc g' k).1 ∧ (sPo quo cap wc tc g k).2 = (sPo quo cap wc tc g' k).2 := by
  intro k
  induction k with
  | zero => exact ⟨h, rfl⟩
  | succ k ih => exact q_pk h ht tc ht _ _ ih.1 ih.2
end CONG
def Sq (S S' : Sch) : Prop := S.1 = S'.1 ∧ S.2.1 = S'.2.1 ∧ S.2.2.1 = S'.2.2.1 ∧ S.2.2.2.1 = S'.2.2.2.1 ∧ gQ S.2.2.2.2.1 S'.2.2.2.2.1 ∧ S.2.2.2.2.2 = S'.2.2.2.2.2
theorem q_act {S S' : Sch} (h : Sq S S') (ht : S.2.1 ≤ 20) (x a b c e : Int32) : Sq (sAct S x a b c e).1 (sAct S' x a b c e).1 ∧ (sAct S x a b c e).2 = (sAct S' x a b c e).2 := by
  obtain ⟨wc, tc, quo, cap, g, bd⟩ := S
  obtain ⟨wc', tc', quo', cap', g', bd'⟩ := S'
  obtain ⟨h1, h2, h3, h4, h5, h6⟩ := id h
  dsimp only at h1 h2 h3 h4 h5 h6 ht
  subst h1 h2 h3 h4 h6
  have cc : ∀ (P : Prop) (A B A' B' : Sch × Int32), (P → Sq A.1 A'.1 ∧ A.2 = A'.2) → (¬ P → Sq B.1 B'.1 ∧ B.2 = B'.2) → Sq (cIf P A B).1 (cIf P A' B').1 ∧ (cIf P A B).2 = (cIf P A' B').2 := fun P A B A' B' f1 f2 => by
    rcases Classical.em P with hp | hp
    · rw [cIf_t hp, cIf_t hp]; exact f1 hp
    · rw [cIf_f hp, cIf_f hp]; exact f2 hp
  unfold sAct
  split
  · simp only [aQuota, q_used h5 tc ht]
    exact cc _ _ _ _ _ (fun _ => ⟨⟨rfl, rfl, rfl, rfl, h5, rfl⟩, rfl⟩) (fun _ => ⟨⟨rfl, rfl, rfl, rfl, h5, rfl⟩, rfl⟩)
  split
  · simp only [aWork]
    exact cc _ _ _ _ _ (fun _ => ⟨⟨rfl, rfl, rfl, rfl, h5, rfl⟩, rfl⟩) (fun _ => ⟨⟨rfl, rfl, rfl, rfl, h5, rfl⟩, rfl⟩)
  split
  · simp only [aTask]
    exact cc _ _ _ _ _ (fun _ => ⟨⟨rfl, rfl, rfl, rfl, gQ_hu (gQ_hu (gQ_hu (gQ_hu h5 _ _ _) _ _ _) _ _ _) _ _ _, rfl⟩, rfl⟩) (fun _ => ⟨⟨rfl, rfl, rfl, rfl, h5, rfl⟩, rfl⟩)
  split
  · simp only [aPlace]
    exact ⟨⟨rfl, rfl, rfl, rfl, (q_po h5 ht 4).1, rfl⟩, by rw [(q_po h5 ht 4).2]⟩
  split
  · by_cases ha : inR a 0 tc
    · have hn := (inR_n ha (by omega)).2.1
      simp only [aFin, h5 a.toNatClampNeg (by omega)]
      exact cc _ _ _ _ _ (fun _ => ⟨⟨rfl, rfl, rfl, rfl, gQ_hu (gQ_hu (gQ_hu h5 _ _ _) _ _ _) _ _ _, rfl⟩, rfl⟩) (fun _ => ⟨⟨rfl, rfl, rfl, rfl, h5, rfl⟩, rfl⟩)
    · rw [aFin, aFin, cIf_f (fun q => ha q.1), cIf_f (fun q => ha q.1)]
      exact ⟨⟨rfl, rfl, rfl, rfl, h5, rfl⟩, rfl⟩
  split
  · by_cases ha : inR a 0 tc
    · have hn := (inR_n ha (by omega)).2.1
      simp only [aCan, h5 a.toNatClampNeg (by omega)]
      exact cc _ _ _ _ _ (fun _ => ⟨⟨rfl, rfl, rfl, rfl, gQ_hu (gQ_hu h5 _ _ _) _ _ _, rfl⟩, rfl⟩) (fun _ => ⟨⟨rfl, rfl, rfl, rfl, h5, rfl⟩, rfl⟩)
    · rw [aCan, aCan, cIf_f (fun q => ha q.1), cIf_f (fun q => ha q.1)]
      exact ⟨⟨rfl, rfl, rfl, rfl, h5, rfl⟩, rfl⟩
  split
  · simp only [aLease]
    exact cc _ _ _ _ _ (fun _ => ⟨⟨rfl, rfl, rfl, rfl, (q_le h5 tc ht).1, rfl⟩, by rw [(q_le h5 tc ht).2]⟩) (fun _ => ⟨⟨rfl, rfl, rfl, rfl, h5, rfl⟩, rfl⟩)
  split
  · by_cases ha : inR a 0 tc
    · have hn := (inR_n ha (by omega)).2.1
      simp only [aStand, h5 a.toNatClampNeg (by omega)]
      exact ⟨⟨rfl, rfl, rfl, rfl, h5, rfl⟩, trivial⟩
    · rw [aStand, aStand, cIf_f ha, cIf_f ha]
      exact ⟨⟨rfl, rfl, rfl, rfl, h5, rfl⟩, rfl⟩
  · exact ⟨⟨rfl, rfl, rfl, rfl, h5, rfl⟩, rfl⟩
/-- sOk is kept -/
theorem sOk_act {S : Sch} (h : sOk S) (x a b c e : Int32) : sOk (sAct S x a b c e).1 := by
  obtain ⟨wc, tc, quo, cap, g, bd⟩ := S
  have h0 := h
  obtain ⟨h6, h20, hU⟩ := h
  dsimp only at h6 h20 hU
  have keep : ∀ (quo' cap' bd' : Nat → Int32) (g' : Nat → Nat → Int32) (w' : Nat), w' ≤ 6 → (∀ t, t < tc → g' t 0 = g t 0 ∧ g' t 2 = g t 2) → sOk (w', tc, quo', cap', g', bd') := fun quo' cap' bd' g' w' hw hg => ⟨hw, h20, fun t ht => by
    show (∃ u, u < 4 ∧ g' t 0 = nI u) ∧ ∃ q, q < 4 ∧ g' t 2 = nI q
    rw [(hg t ht).1, (hg t ht).2]
    exact hU t ht⟩
  have cc : ∀ (P : Prop) (A B : Sch × Int32), (P → sOk A.1) → sOk B.1 → sOk (cIf P A B).1 := fun P A B f1 f2 => by
    rcases Classical.em P with hp | hp
    · rw [cIf_t hp]; exact f1 hp
    · rw [cIf_f hp]; exact f2
  unfold sAct
  split
  · exact cc _ _ _ (fun _ => keep _ _ _ _ _ h6 (fun t _ => ⟨rfl, rfl⟩)) h0
  split
  · exact cc _ _ _ (fun hp => keep _ _ _ _ _ hp.2 (fun t _ => ⟨rfl, rfl⟩)) h0
  split
  · refine cc _ _ _ (fun hp => ?_) h0
    obtain ⟨⟨⟨u, -, hu4, eu⟩, -, ⟨q, -, hq4, eq⟩, -⟩, ht⟩ := hp
    refine ⟨h6, ht, fun t htt => ?_⟩
    by_cases et : t = tc
    · subst et
      refine ⟨⟨u, hu4, ?_⟩, q, hq4, ?_⟩ <;> dsimp only
      · rw [hu_n (by omega), hu_n (by omega), hu_n (by omega), hu_s]; exact eu
      · rw [hu_n (by omega), hu_s]; exact eq
    · have ht2 : t < tc + 1 := htt
      have := hU t (by omega)
      dsimp only
      rw [hu_n (by omega), hu_n (by omega), hu_n (by omega), hu_n (by omega), hu_n (by omega), hu_n (by omega), hu_n (by omega), hu_n (by omega)]
      exact this
  split
  · exact keep _ _ _ _ _ h6 (fun t _ => ⟨sPo_f t 0 (by decide) (by decide) (by decide) 4, sPo_f t 2 (by decide) (by decide) (by decide) 4⟩)
  split
  · exact cc _ _ _ (fun _ => keep _ _ _ _ _ h6 (fun t _ => ⟨by rw [hu_n (by omega), hu_n (by omega), hu_n (by omega)], by rw [hu_n (by omega), hu_n (by omega), hu_n (by omega)]⟩)) h0
  split
  · exact cc _ _ _ (fun _ => keep _ _ _ _ _ h6 (fun t _ => ⟨by rw [hu_n (by omega), hu_n (by omega)], by rw [hu_n (by omega), hu_n (by omega)]⟩)) h0
  split
  · refine cc _ _ _ (fun _ => keep _ _ _ _ _ h6 (fun t _ => ?_)) h0
    have : ∀ k, (sLe g a k).1 t 0 = g t 0 ∧ (sLe g a k).1 t 2 = g t 2 := by
      intro k
      induction k with
      | zero => exact ⟨rfl, rfl⟩
      | succ k ih =>
        simp only [sLe]
        split
        · exact ⟨by dsimp only; rw [hu_n (by omega), hu_n (by omega)]; exact ih.1, by dsimp only; rw [hu_n (by omega), hu_n (by omega)]; exact ih.2⟩
        · exact ih
    exact this tc
  split
  · exact h0
  · exact h0
/-- the scheduler after the first k orders of a log, and what order k answers -/
def S0 : Sch := (0, 0, fun _ => 0, fun _ => 0, fun _ j => if j = 3 ∨ j = 6 then -1 else 0, fun _ => 0)
noncomputable def rnS (g : Nat → Nat → Int32) : Nat → Sch
  | 0 => S0
  | k + 1 => (sAct (rnS g k) (g k 2) (g k 3) (g k 4) (g k 5) (g k 6)).1
noncomputable def anS (g : Nat → Nat → Int32) (k : Nat) : Int32 := (sAct (rnS g k) (g k 2) (g k 3) (g k 4) (g k 5) (g k 6)).2
theorem rnS_ok (g : Nat → Nat → Int32) : ∀ k, sOk (rnS g k) := by
  intro k
  induction k with
  | zero => exact ⟨Nat.zero_le _, Nat.zero_le _, fun t ht => absurd ht (Nat.not_lt_zero t)⟩
  | succ k ih => exact sOk_act ih _ _ _ _ _
theorem rnS_eq {g g' : Nat → Nat → Int32} {n : Nat} (h : ∀ k, k < n → ∀ j, j < 7 → g k j = g' k j) : ∀ k, k ≤ n → rnS g k = rnS g' k := by
  intro k
  induction k with
  | zero => intro _; rfl
  | succ k ih =>
    intro hk
    simp only [rnS, ih (by omega)]
    rw [h k (by omega) 2 (by omega), h k (by omega) 3 (by omega), h k (by omega) 4 (by omega), h k (by omega) 5 (by omega), h k (by omega) 6 (by omega)]
theorem anS_eq {g g' : Nat → Nat → Int32} {n : Nat} (h : ∀ k, k < n → ∀ j, j < 7 → g k j = g' k j) {k : Nat} (hk : k < n) : anS g k = anS g' k := by
  simp only [anS, rnS_eq h k (by omega)]
  rw [h k hk 2 (by omega), h k hk 3 (by omega), h k hk 4 (by omega), h k hk 5 (by omega), h k hk 6 (by omega)]
