/-! my own: a map: how many segments, how many ends, each one's first and last end, who is over whom -/
abbrev Mp : Type := Nat × Nat × (Nat → Nat) × (Nat → Nat) × (Nat → Nat → Prop)
def mm (M : Mp) : Nat := M.1
def mE (M : Mp) : Nat := M.2.1
def mF (M : Mp) (i : Nat) : Nat := M.2.2.1 i
def mL (M : Mp) (i : Nat) : Nat := M.2.2.2.1 i
def mO (M : Mp) (a b : Nat) : Prop := M.2.2.2.2 a b
def thr (M : Mp) (j i : Nat) : Prop := mF M i < j ∧ j ≤ mL M i
noncomputable def mH (M : Mp) (j : Nat) : Nat := (stk (mO M) (thr M j) (mm M)).1
noncomputable def mT (M : Mp) (j k : Nat) : Nat := (stk (mO M) (thr M j) (mm M)).2 k
/-- a map that is one -/
def okM (M : Mp) : Prop := mm M ≤ 6 ∧ mE M ≤ 12 ∧ (∀ i, i < mm M → mF M i < mL M i ∧ mL M i < mE M) ∧ (∀ e, e < mE M → ∃ i, i < mm M ∧ (mF M i = e ∨ mL M i = e)) ∧
  (∀ j a b, a < mm M → b < mm M → thr M j a → thr M j b → mO M a b → ¬ mO M b a) ∧ (∀ j a b, a < mm M → b < mm M → thr M j a → thr M j b → a ≠ b → mO M a b ∨ mO M b a) ∧
  (∀ j a b c, a < mm M → b < mm M → c < mm M → thr M j a → thr M j b → thr M j c → mO M a b → mO M b c → mO M a c)
theorem okM.m {M : Mp} (h : okM M) : mm M ≤ 6 := h.1
theorem okM.e {M : Mp} (h : okM M) : mE M ≤ 12 := h.2.1
theorem okM.fl {M : Mp} (h : okM M) {i : Nat} (hi : i < mm M) : mF M i < mL M i ∧ mL M i < mE M := h.2.2.1 i hi
theorem okM.cov {M : Mp} (h : okM M) {e : Nat} (he : e < mE M) : ∃ i, i < mm M ∧ (mF M i = e ∨ mL M i = e) := h.2.2.2.1 e he
theorem okM.asy {M : Mp} (h : okM M) {j a b : Nat} (ha : a < mm M) (hb : b < mm M) (ta : thr M j a) (tb : thr M j b) (o : mO M a b) : ¬ mO M b a := h.2.2.2.2.1 j a b ha hb ta tb o
theorem okM.irr {M : Mp} (h : okM M) {j a : Nat} (ha : a < mm M) (ta : thr M j a) : ¬ mO M a a := fun o => h.asy ha ha ta ta o o
theorem okM.skp {M : Mp} (h : okM M) (j : Nat) : skp (mO M) (thr M j) (mm M) (mH M j) (mT M j) :=
  stk_skp (fun a b ha hb ta tb => h.2.2.2.2.2.1 j a b ha hb ta tb) (fun a b c ha hb hc ta tb tc => h.2.2.2.2.2.2 j a b c ha hb hc ta tb tc) (mm M) (Nat.le_refl _)
theorem okM.tin {M : Mp} (h : okM M) {j k : Nat} (hk : k < mH M j) : mT M j k < mm M ∧ thr M j (mT M j k) := (h.skp j).1 k hk
theorem okM.tall {M : Mp} (h : okM M) {j i : Nat} (hi : i < mm M) (ht : thr M j i) : ∃ k, k < mH M j ∧ mT M j k = i := (h.skp j).2.1 i hi ht
theorem okM.tov {M : Mp} (h : okM M) {j k l : Nat} (hk : k < l) (hl : l < mH M j) : mO M (mT M j l) (mT M j k) := (h.skp j).2.2 k l hk hl
theorem okM.tlt {M : Mp} (h : okM M) {j k l : Nat} (hk : k < mH M j) (hl : l < mH M j) : mO M (mT M j l) (mT M j k) ↔ k < l := by
  constructor
  · intro o
    rcases Nat.lt_trichotomy k l with q | q | q
    · exact q
    · rw [q] at o
      exact absurd o (h.irr (h.tin hl).1 (h.tin hl).2)
    · exact absurd (h.tov q hk) (h.asy (h.tin hl).1 (h.tin hk).1 (h.tin hl).2 (h.tin hk).2 o)
  · intro q
    exact h.tov q hl
theorem okM.tinj {M : Mp} (h : okM M) {j k l : Nat} (hk : k < mH M j) (hl : l < mH M j) (e : mT M j k = mT M j l) : k = l := by
  rcases Nat.lt_trichotomy k l with q | q | q
  · have o := h.tov q hl
    rw [e] at o
    exact absurd o (h.irr (h.tin hl).1 (h.tin hl).2)
  · exact q
  · have o := h.tov q hk
    rw [e] at o
    exact absurd o (h.irr (h.tin hl).1 (h.tin hl).2)
theorem mH_le (M : Mp) (j : Nat) : mH M j ≤ mm M := stk_le _ _ _
theorem okM.h6 {M : Mp} (h : okM M) (j : Nat) : mH M j ≤ 6 := Nat.le_trans (mH_le M j) h.m
theorem mH_cnt (M : Mp) (j : Nat) : mH M j = cnt (thr M j) (mm M) := stk_cnt _ _ _
theorem mH_0 (M : Mp) : mH M 0 = 0 := by
  rw [mH_cnt]
  exact cnt_zero (fun k _ q => Nat.not_lt_zero _ q.1)
theorem okM.hE {M : Mp} (h : okM M) {j : Nat} (hj : mE M ≤ j) : mH M j = 0 := by
  rw [mH_cnt]
  refine cnt_zero (fun k hk q => ?_)
  have := h.fl hk
  have := q.2
  omega
/-- where a segment lies in the stack of a strip -/
noncomputable def ix (M : Mp) (j x : Nat) : Nat := fnd (fun k => mT M j k = x) (mH M j)
theorem okM.ixs {M : Mp} (h : okM M) {j x : Nat} (hx : x < mm M) (ht : thr M j x) : ix M j x < mH M j ∧ mT M j (ix M j x) = x := by
  have h1 : ix M j x < mH M j := fnd_lt.mpr (h.tall hx ht)
  exact ⟨h1, (fnd_spec _ _).2.1 h1⟩
theorem okM.ixT {M : Mp} (h : okM M) {j k : Nat} (hk : k < mH M j) : ix M j (mT M j k) = k := by
  have q := h.ixs (h.tin hk).1 (h.tin hk).2
  exact h.tinj q.1 hk q.2
theorem okM.ixo {M : Mp} (h : okM M) {j x y : Nat} (hx : x < mm M) (hy : y < mm M) (tx : thr M j x) (ty : thr M j y) : mO M y x ↔ ix M j x < ix M j y := by
  have a := h.ixs hx tx
  have b := h.ixs hy ty
  have c := h.tlt (j := j) a.1 b.1
  rw [a.2, b.2] at c
  exact c
/-- floor and roof of a cell -/
noncomputable def flo (M : Mp) (j k : Nat) : Int := if k = 0 then -1 else (mT M j (k - 1) : Int)
noncomputable def roo (M : Mp) (j k : Nat) : Int := if k = mH M j then -1 else (mT M j k : Int)
theorem flo_0 (M : Mp) (j : Nat) : flo M j 0 = -1 := if_pos rfl
theorem flo_s (M : Mp) (j k : Nat) : flo M j (k + 1) = mT M j k := by unfold flo; rw [if_neg (by omega), Nat.add_sub_cancel]
theorem roo_t (M : Mp) (j : Nat) : roo M j (mH M j) = -1 := if_pos rfl
theorem roo_k {M : Mp} {j k : Nat} (h : k < mH M j) : roo M j k = mT M j k := by unfold roo; rw [if_neg (by omega)]
theorem flo_p {M : Mp} {j k : Nat} (h : 0 < k) : flo M j k = mT M j (k - 1) := by unfold flo; rw [if_neg (by omega)]
theorem flo_in (M : Mp) (j k : Nat) : -1 ≤ flo M j k := by unfold flo; split <;> omega
theorem roo_in (M : Mp) (j k : Nat) : -1 ≤ roo M j k := by unfold roo; split <;> omega
theorem okM.flo6 {M : Mp} (h : okM M) {j k : Nat} (hk : k ≤ mH M j) : flo M j k < 6 := by
  by_cases q : k = 0
  · rw [q, flo_0]; omega
  · rw [flo_p (by omega)]
    have := (h.tin (j := j) (k := k - 1) (by omega)).1
    have := h.m
    omega
theorem okM.roo6 {M : Mp} (h : okM M) {j k : Nat} (hk : k ≤ mH M j) : roo M j k < 6 := by
  by_cases q : k = mH M j
  · rw [q, roo_t]; omega
  · rw [roo_k (by omega)]
    have := (h.tin (j := j) (k := k) (by omega)).1
    have := h.m
    omega
/-- floors of a strip's cells are all different, roofs too -/
theorem okM.flo_inj {M : Mp} (h : okM M) {j k l : Nat} (hk : k ≤ mH M j) (hl : l ≤ mH M j) (e : flo M j k = flo M j l) : k = l := by
  by_cases q : k = 0
  · by_cases r : l = 0
    · omega
    · rw [q, flo_0, flo_p (by omega)] at e
      omega
  · by_cases r : l = 0
    · rw [r, flo_0, flo_p (by omega)] at e
      omega
    · rw [flo_p (by omega), flo_p (by omega)] at e
      have := h.tinj (j := j) (k := k - 1) (l := l - 1) (by omega) (by omega) (by omega)
      omega
theorem okM.roo_inj {M : Mp} (h : okM M) {j k l : Nat} (hk : k ≤ mH M j) (hl : l ≤ mH M j) (e : roo M j k = roo M j l) : k = l := by
  by_cases q : k = mH M j
  · by_cases r : l = mH M j
    · omega
    · rw [q, roo_t, roo_k (by omega)] at e
      omega
  · by_cases r : l = mH M j
    · rw [r, roo_t, roo_k (by omega)] at e
      omega
    · rw [roo_k (by omega), roo_k (by omega)] at e
      exact h.tinj (j := j) (by omega) (by omega) (by omega)
/-- the first cell of a strip -/
noncomputable def FC (M : Mp) (j : Nat) : Nat := sm (fun i => mH M i + 1) j
theorem FC_s (M : Mp) (j : Nat) : FC M (j + 1) = FC M j + (mH M j + 1) := rfl
theorem FC_mono {M : Mp} {a b : Nat} (h : a ≤ b) : FC M a ≤ FC M b := sm_mono h
theorem FC_lt {M : Mp} {j k i l : Nat} (hk : k ≤ mH M j) (h : j < i) : FC M j + k < FC M i + l := by
  have := FC_mono (M := M) (a := j + 1) (b := i) (by omega)
  rw [FC_s] at this
  omega
theorem FC_inj {M : Mp} {j k i l : Nat} (hk : k ≤ mH M j) (hl : l ≤ mH M i) (e : FC M j + k = FC M i + l) : j = i ∧ k = l := by
  rcases Nat.lt_trichotomy j i with q | q | q
  · have := FC_lt (M := M) (l := l) hk q
    omega
  · subst q
    exact ⟨rfl, by omega⟩
  · have := FC_lt (M := M) (l := k) hl q
    omega
/-- which cell of strip j has these as floor and roof -/
noncomputable def mch (M : Mp) (j : Nat) (a b : Int) : Nat := fnd (fun k => flo M j k = a ∧ roo M j k = b) (mH M j + 1)
/-- a cell with which a field begins -/
def nw (M : Mp) (j k : Nat) : Prop := j = 0 ∨ ¬ mch M (j - 1) (flo M j k) (roo M j k) < mH M (j - 1) + 1
noncomputable def nfS (M : Mp) (j : Nat) : Nat := sm (fun i => cnt (nw M i) (mH M i + 1)) j
/-- how many fields have begun ahead of a cell -/
noncomputable def nf (M : Mp) (j k : Nat) : Nat := nfS M j + cnt (nw M j) k
theorem nf_0 (M : Mp) (j : Nat) : nf M j 0 = nfS M j := rfl
theorem nf_e (M : Mp) (j : Nat) : nf M j (mH M j + 1) = nfS M (j + 1) := rfl
theorem nf_s (M : Mp) (j k : Nat) : nf M j (k + 1) = nf M j k + ind (nw M j k) := by
  unfold nf
  rw [cnt_s]
  omega
theorem nf_t {M : Mp} {j k : Nat} (h : nw M j k) : nf M j (k + 1) = nf M j k + 1 := by rw [nf_s, ind_t h]
theorem nf_f {M : Mp} {j k : Nat} (h : ¬ nw M j k) : nf M j (k + 1) = nf M j k := by rw [nf_s, ind_f h, Nat.add_zero]
theorem nf_mono {M : Mp} {j a b : Nat} (h : a ≤ b) : nf M j a ≤ nf M j b := Nat.add_le_add_left (sm_mono h) _
theorem nfS_mono {M : Mp} {a b : Nat} (h : a ≤ b) : nfS M a ≤ nfS M b := sm_mono h
theorem nf_le {M : Mp} {j k i l : Nat} (hk : k ≤ mH M j + 1) (h : j < i ∨ (j = i ∧ k ≤ l)) : nf M j k ≤ nf M i l := by
  rcases h with h | ⟨rfl, h⟩
  · have a := nf_mono (M := M) (j := j) hk
    rw [nf_e] at a
    have b := nfS_mono (M := M) (a := j + 1) (b := i) (by omega)
    have c : nfS M i ≤ nf M i l := Nat.le_add_right _ _
    omega
  · exact nf_mono h
theorem nf_lt {M : Mp} {j k i l : Nat} (hn : nw M j k) (hk : k ≤ mH M j) (h : j < i ∨ (j = i ∧ k < l)) : nf M j k < nf M i l := by
  have a := nf_le (M := M) (j := j) (k := k + 1) (i := i) (l := l) (by omega) (by omega)
  rw [nf_t hn] at a
  omega
theorem nf_inj {M : Mp} {j k i l : Nat} (hn : nw M j k) (hk : k ≤ mH M j) (hn2 : nw M i l) (hl : l ≤ mH M i) (e : nf M j k = nf M i l) : j = i ∧ k = l := by
  rcases Nat.lt_trichotomy j i with q | q | q
  · have := nf_lt (i := i) (l := l) hn hk (Or.inl q)
    omega
  · subst q
    refine ⟨rfl, ?_⟩
    rcases Nat.lt_trichotomy k l with r | r | r
    · have := nf_lt (i := j) (l := l) hn hk (Or.inr ⟨rfl, r⟩)
      omega
    · exact r
    · have := nf_lt (i := j) (l := k) hn2 hl (Or.inr ⟨rfl, r⟩)
      omega
  · have := nf_lt (i := j) (l := k) hn2 hl (Or.inl q)
    omega
/-- the field of a cell -/
noncomputable def fo (M : Mp) : Nat → Nat → Nat
  | 0 => fun k => nf M 0 k
  | j + 1 => fun k => cit (nw M (j + 1) k) (nf M (j + 1) k) (fo M j (mch M j (flo M (j + 1) k) (roo M (j + 1) k)))
theorem fo_new {M : Mp} {j k : Nat} (h : nw M j k) : fo M j k = nf M j k := by
  cases j with
  | zero => rfl
  | succ j => exact cit_t h
theorem fo_old {M : Mp} {j k : Nat} (h : ¬ nw M (j + 1) k) : fo M (j + 1) k = fo M j (mch M j (flo M (j + 1) k) (roo M (j + 1) k)) ∧ mch M j (flo M (j + 1) k) (roo M (j + 1) k) ≤ mH M j ∧
    flo M j (mch M j (flo M (j + 1) k) (roo M (j + 1) k)) = flo M (j + 1) k ∧ roo M j (mch M j (flo M (j + 1) k) (roo M (j + 1) k)) = roo M (j + 1) k := by
  have h1 : mch M j (flo M (j + 1) k) (roo M (j + 1) k) < mH M j + 1 := by
    by_cases q : mch M j (flo M (j + 1) k) (roo M (j + 1) k) < mH M j + 1
    · exact q
    · exact absurd (Or.inr q) h
  have h2 := (fnd_spec _ _).2.1 h1
  exact ⟨cit_f h, by omega, h2.1, h2.2⟩
/-- a cell that has a match ahead goes on there -/
theorem okM.fo_m {M : Mp} (h : okM M) {j k l : Nat} (hl : l ≤ mH M j) (e1 : flo M j l = flo M (j + 1) k) (e2 : roo M j l = roo M (j + 1) k) : ¬ nw M (j + 1) k ∧ fo M (j + 1) k = fo M j l := by
  have h1 : mch M j (flo M (j + 1) k) (roo M (j + 1) k) < mH M j + 1 := fnd_lt.mpr ⟨l, by omega, e1, e2⟩
  have h0 : ¬ nw M (j + 1) k := by
    rintro (q | q)
    · omega
    · exact q h1
  obtain ⟨a, b, c, d⟩ := fo_old h0
  refine ⟨h0, ?_⟩
  rw [a]
  congr 1
  exact h.flo_inj b hl (by rw [c, e1])
theorem fo_lt {M : Mp} : ∀ j k, k ≤ mH M j → fo M j k < nf M j (k + 1) := by
  intro j
  induction j with
  | zero =>
    intro k hk
    have : nw M 0 k := Or.inl rfl
    rw [fo_new this, nf_t this]
    omega
  | succ j ih =>
    intro k hk
    by_cases q : nw M (j + 1) k
    · rw [fo_new q, nf_t q]
      omega
    · obtain ⟨a, b, -, -⟩ := fo_old q
      have c := ih _ b
      have d := nf_le (M := M) (j := j) (k := mch M j (flo M (j + 1) k) (roo M (j + 1) k) + 1) (i := j + 1) (l := k + 1) (by omega) (Or.inl (by omega))
      rw [a]
      omega
/-- every cell's field began somewhere, with the same floor and roof -/
theorem fo_fd {M : Mp} : ∀ j k, k ≤ mH M j → ∃ i l, i ≤ j ∧ l ≤ mH M i ∧ nw M i l ∧ nf M i l = fo M j k ∧ flo M i l = flo M j k ∧ roo M i l = roo M j k := by
  intro j
  induction j with
  | zero =>
    intro k hk
    exact ⟨0, k, Nat.le_refl _, hk, Or.inl rfl, rfl, rfl, rfl⟩
  | succ j ih =>
    intro k hk
    by_cases q : nw M (j + 1) k
    · exact ⟨j + 1, k, Nat.le_refl _, hk, q, (fo_new q).symm, rfl, rfl⟩
    · obtain ⟨a, b, c, d⟩ := fo_old q
      obtain ⟨i, l, h1, h2, h3, h4, h5, h6⟩ := ih _ b
      exact ⟨i, l, by omega, h2, h3, by rw [h4, a], by rw [h5, c], by rw [h6, d]⟩
theorem fo_same {M : Mp} {j k i l : Nat} (hk : k ≤ mH M j) (hl : l ≤ mH M i) (e : fo M j k = fo M i l) : flo M j k = flo M i l ∧ roo M j k = roo M i l := by
  obtain ⟨a, b, -, h2, h3, h4, h5, h6⟩ := fo_fd j k hk
  obtain ⟨c, d, -, g2, g3, g4, g5, g6⟩ := fo_fd i l hl
  obtain ⟨rfl, rfl⟩ := nf_inj h3 h2 g3 g2 (by rw [h4, g4, e])
  exact ⟨by rw [← h5, ← g5], by rw [← h6, ← g6]⟩
/-- in one strip cells are of different fields -/
theorem okM.fo_inj {M : Mp} (h : okM M) {j k l : Nat} (hk : k ≤ mH M j) (hl : l ≤ mH M j) (e : fo M j k = fo M j l) : k = l := h.flo_inj hk hl (fo_same hk hl e).1
theorem cnt_inv {p : Nat → Prop} {n f : Nat} (h : f < cnt p n) : ∃ k, k < n ∧ p k ∧ cnt p k = f := by
  induction n with
  | zero => exact absurd h (Nat.not_lt_zero f)
  | succ n ih =>
    by_cases q : f < cnt p n
    · obtain ⟨k, a, b, c⟩ := ih q
      exact ⟨k, by omega, b, c⟩
    · rw [cnt_s] at h
      by_cases r : p n
      · rw [ind_t r] at h
        exact ⟨n, by omega, r, by omega⟩
      · rw [ind_f r] at h
        omega
/-- how many fields there are -/
noncomputable def nF (M : Mp) : Nat := nfS M (mE M + 1)
theorem fd_ex {M : Mp} {J f : Nat} (h : f < nfS M J) : ∃ j k, j < J ∧ k ≤ mH M j ∧ nw M j k ∧ nf M j k = f := by
  induction J with
  | zero => exact absurd h (Nat.not_lt_zero f)
  | succ J ih =>
    by_cases q : f < nfS M J
    · obtain ⟨j, k, a, b⟩ := ih q
      exact ⟨j, k, by omega, b⟩
    · have e : nfS M (J + 1) = nfS M J + cnt (nw M J) (mH M J + 1) := rfl
      rw [e] at h
      obtain ⟨k, a, b, c⟩ := cnt_inv (p := nw M J) (n := mH M J + 1) (f := f - nfS M J) (by omega)
      refine ⟨J, k, by omega, by omega, b, ?_⟩
      show nfS M J + cnt (nw M J) k = f
      omega
theorem fo_nF {M : Mp} {j k : Nat} (hj : j ≤ mE M) (hk : k ≤ mH M j) : fo M j k < nF M := by
  have a := fo_lt j k hk
  have b := nf_mono (M := M) (j := j) (a := k + 1) (b := mH M j + 1) (by omega)
  rw [nf_e] at b
  have c := nfS_mono (M := M) (a := j + 1) (b := mE M + 1) (by omega)
  unfold nF
  omega
/-- the last strip of a field, of those below j and of the first k cells of j -/
noncomputable def lsf (M : Mp) : Nat → Nat → Nat
  | 0 => fun _ => 0
  | j + 1 => fun f => cit (∃ l, l < mH M j + 1 ∧ fo M j l = f) j (lsf M j f)
noncomputable def lsp (M : Mp) (j k f : Nat) : Nat := cit (∃ l, l < k ∧ fo M j l = f) j (lsf M j f)
theorem lsp_0 (M : Mp) (j f : Nat) : lsp M j 0 f = lsf M j f := cit_f (fun ⟨l, h, _⟩ => absurd h (Nat.not_lt_zero l))
theorem lsp_e (M : Mp) (j f : Nat) : lsp M j (mH M j + 1) f = lsf M (j + 1) f := rfl
theorem lsp_s {M : Mp} {j k f : Nat} (h : fo M j k = f) : lsp M j (k + 1) f = j := cit_t ⟨k, by omega, h⟩
theorem lsp_n {M : Mp} {j k f : Nat} (h : fo M j k ≠ f) : lsp M j (k + 1) f = lsp M j k f := by
  unfold lsp
  have e : (∃ l, l < k + 1 ∧ fo M j l = f) = (∃ l, l < k ∧ fo M j l = f) := propext ⟨fun ⟨l, a, b⟩ => ⟨l, by
    by_cases q : l = k
    · rw [q] at b; exact absurd b h
    · omega, b⟩, fun ⟨l, a, b⟩ => ⟨l, by omega, b⟩⟩
  rw [e]
theorem lsf_lt {M : Mp} : ∀ J f, lsf M J f < J ∨ lsf M J f = 0 := by
  intro J
  induction J with
  | zero => intro f; exact Or.inr rfl
  | succ j ih =>
    intro f
    show cit _ j (lsf M j f) < j + 1 ∨ cit _ j (lsf M j f) = 0
    by_cases q : ∃ l, l < mH M j + 1 ∧ fo M j l = f
    · rw [cit_t q]
      exact Or.inl (by omega)
    · rw [cit_f q]
      rcases ih f with h | h
      · exact Or.inl (by omega)
      · exact Or.inr h
