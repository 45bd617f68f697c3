def sv_rest (g f : Nat) : Nat := g ^^^ (g &&& f)
theorem sv_rest_tb (g f i : Nat) : (sv_rest g f).testBit i = (g.testBit i && !f.testBit i) := by
  unfold sv_rest
  rw [Nat.testBit_xor, Nat.testBit_and]
  cases g.testBit i <;> cases f.testBit i <;> rfl
def sv_sub (a b : Nat) : Prop := ∀ i, a.testBit i = true → b.testBit i = true
theorem sv_sub_le {a b : Nat} (h : sv_sub a b) : a ≤ b := by
  have e : a = a &&& b := by
    apply Nat.eq_of_testBit_eq
    intro i
    rw [Nat.testBit_and]
    have := h i
    revert this
    cases a.testBit i <;> cases b.testBit i <;> simp
  rw [e]
  exact Nat.and_le_right
theorem sv_sub_and {a b : Nat} : a &&& b = b ↔ sv_sub b a := by
  constructor
  · intro h i hi
    have e := congrArg (fun x => x.testBit i) h
    simp only [Nat.testBit_and] at e
    rw [hi] at e
    simpa using e
  · intro h
    apply Nat.eq_of_testBit_eq
    intro i
    rw [Nat.testBit_and]
    have := h i
    revert this
    cases a.testBit i <;> cases b.testBit i <;> simp
theorem sv_sub_rest (g f : Nat) : sv_sub (sv_rest g f) g := by
  intro i h
  rw [sv_rest_tb] at h
  revert h
  cases g.testBit i <;> simp
theorem sv_rest_le (g f : Nat) : sv_rest g f ≤ g := sv_sub_le (sv_sub_rest g f)
theorem sv_rest_mono {a b : Nat} (f : Nat) (h : sv_sub a b) : sv_sub (sv_rest a f) (sv_rest b f) := by
  intro i hi
  rw [sv_rest_tb] at hi ⊢
  have := h i
  revert this hi
  cases a.testBit i <;> cases b.testBit i <;> cases f.testBit i <;> simp
theorem sv_rest_zero (f : Nat) : sv_rest 0 f = 0 := Nat.le_zero.mp (sv_rest_le 0 f)
theorem sv_rest_0 (g : Nat) : sv_rest g 0 = g := by
  unfold sv_rest
  rw [Nat.and_zero, Nat.xor_zero]
theorem sv_disj {a b : Nat} : a &&& b = 0 ↔ ∀ i, a.testBit i = true → b.testBit i = false := by
  constructor
  · intro h i hi
    have e := congrArg (fun x => x.testBit i) h
    simp only [Nat.testBit_and, Nat.zero_testBit] at e
    rw [hi] at e
    simpa using e
  · intro h
    apply Nat.eq_of_testBit_eq
    intro i
    rw [Nat.testBit_and, Nat.zero_testBit]
    have := h i
    revert this
    cases a.testBit i <;> cases b.testBit i <;> simp
theorem sv_ex {a : Nat} (h : a ≠ 0) : ∃ i, a.testBit i = true := by
  obtain ⟨i, hi⟩ := Nat.exists_testBit_of_ne_zero h
  exact ⟨i, hi⟩
theorem sv_rest_or {i P : Nat} (h : i &&& P = 0) : sv_rest (i ||| P) P = i := by
  apply Nat.eq_of_testBit_eq
  intro k
  rw [sv_rest_tb, Nat.testBit_or]
  have := sv_disj.mp h k
  revert this
  cases i.testBit k <;> cases P.testBit k <;> simp
theorem sv_rest_disj (t P : Nat) : sv_rest t P &&& P = 0 := by
  apply sv_disj.mpr
  intro k h
  rw [sv_rest_tb] at h
  revert h
  cases t.testBit k <;> cases P.testBit k <;> simp
theorem sv_or_rest {t P : Nat} (h : t &&& P = P) : sv_rest t P ||| P = t := by
  apply Nat.eq_of_testBit_eq
  intro k
  rw [Nat.testBit_or, sv_rest_tb]
  have := sv_sub_and.mp h k
  revert this
  cases t.testBit k <;> cases P.testBit k <;> simp
theorem sv_or_and (i P : Nat) : (i ||| P) &&& P = P := by
  apply sv_sub_and.mpr
  intro k h
  rw [Nat.testBit_or, h, Bool.or_true]
def sv_cov (M : Nat) (fm : Nat → Nat) : Nat → Nat → Prop
  | 0 => fun g => g = 0
  | k + 1 => fun g => g = 0 ∨ ∃ j, j < M ∧ sv_cov M fm k (sv_rest g (fm j))
theorem sv_cov_mono {M : Nat} {fm : Nat → Nat} : ∀ (k : Nat) {a b : Nat}, sv_sub a b → sv_cov M fm k b → sv_cov M fm k a := by
  intro k
  induction k with
  | zero =>
    intro a b h hb
    have hb : b = 0 := hb
    have := sv_sub_le h
    show a = 0
    omega
  | succ k ih =>
    intro a b h hb
    rcases hb with hb | ⟨j, hj, hc⟩
    · left
      have := sv_sub_le h
      omega
    · exact Or.inr ⟨j, hj, ih (sv_rest_mono (fm j) h) hc⟩
def sv_good (M : Nat) (fm : Nat → Nat) (x : Int32) (g : Nat) : Prop :=
  (∃ k, k ≤ g ∧ x = nI k ∧ sv_cov M fm k g ∧ ∀ k', sv_cov M fm k' g → k ≤ k') ∨ (x = -2 ∧ ∀ k, ¬ sv_cov M fm k g)
theorem sv_good_0 (M : Nat) (fm : Nat → Nat) : sv_good M fm 0 0 :=
  Or.inl ⟨0, Nat.le_refl 0, rfl, rfl, fun _ _ => Nat.zero_le _⟩
def sv_nf (M : Nat) (fm : Nat → Nat) (g i : Nat) (x : Int32) : Prop :=
  (∃ k, k ≤ g ∧ x = nI k ∧ sv_cov M fm k g ∧ ∀ j, j < i → sv_rest g (fm j) ≠ g → ∀ k', sv_cov M fm k' (sv_rest g (fm j)) → k ≤ k' + 1) ∨
  (x = -2 ∧ ∀ j, j < i → sv_rest g (fm j) ≠ g → ∀ k', ¬ sv_cov M fm k' (sv_rest g (fm j)))
theorem sv_nf_0 (M : Nat) (fm : Nat → Nat) (g : Nat) : sv_nf M fm g 0 (-2) :=
  Or.inr ⟨rfl, fun _ h => absurd h (Nat.not_lt_zero _)⟩
theorem sv_nf_same {M : Nat} {fm : Nat → Nat} {g i : Nat} {x : Int32} (e : sv_rest g (fm i) = g) (h : sv_nf M fm g i x) : sv_nf M fm g (i + 1) x := by
  rcases h with ⟨k, h1, h2, h3, h4⟩ | ⟨h1, h2⟩
  · refine Or.inl ⟨k, h1, h2, h3, fun j hj hne => ?_⟩
    by_cases hji : j = i
    · subst hji; exact absurd e hne
    · exact h4 j (by omega) hne
  · refine Or.inr ⟨h1, fun j hj hne => ?_⟩
    by_cases hji : j = i
    · subst hji; exact absurd e hne
    · exact h2 j (by omega) hne
theorem sv_nf_none {M : Nat} {fm : Nat → Nat} {g i : Nat} {x y : Int32} (hy : sv_good M fm y (sv_rest g (fm i))) (hg : g < 64) (e : y = -2) (h : sv_nf M fm g i x) : sv_nf M fm g (i + 1) x := by
  have hn : ∀ k, ¬ sv_cov M fm k (sv_rest g (fm i)) := by
    rcases hy with ⟨k, a, b, _, _⟩ | ⟨_, b⟩
    · have := sv_rest_le g (fm i)
      exact absurd (b.symm.trans e) ((by decide +kernel : ∀ k, k < 64 → ¬ nI k = -2) k (by omega))
    · exact b
  rcases h with ⟨k, h1, h2, h3, h4⟩ | ⟨h1, h2⟩
  · refine Or.inl ⟨k, h1, h2, h3, fun j hj hne => ?_⟩
    by_cases hji : j = i
    · subst hji; exact fun k' hk => absurd hk (hn k')
    · exact h4 j (by omega) hne
  · refine Or.inr ⟨h1, fun j hj hne => ?_⟩
    by_cases hji : j = i
    · subst hji; exact hn
    · exact h2 j (by omega) hne
theorem sv_nf_take {M : Nat} {fm : Nat → Nat} {g i : Nat} {x y : Int32} (hM : i < M) (hy : sv_good M fm y (sv_rest g (fm i))) (hg : g < 64) (hne : ¬ sv_rest g (fm i) = g) (e : ¬ y = -2) (h : sv_nf M fm g i x) :
    (x = -2 → sv_nf M fm g (i + 1) (y + 1)) ∧ (¬ x = -2 → x ≤ y + 1 → sv_nf M fm g (i + 1) x) ∧ (¬ x = -2 → ¬ x ≤ y + 1 → sv_nf M fm g (i + 1) (y + 1)) := by
  rcases hy with ⟨q, q1, q2, q3, q4⟩ | ⟨b, _⟩
  · have hle := sv_rest_le g (fm i)
    have hlt : sv_rest g (fm i) < g := by omega
    have hcov : sv_cov M fm (q + 1) g := Or.inr ⟨i, hM, q3⟩
    have hy1 : y + 1 = nI (q + 1) := by rw [q2, nI_1]
    refine ⟨fun hx => ?_, fun hx hxy => ?_, fun hx hxy => ?_⟩
    · rcases h with ⟨k, h1, h2, h3, h4⟩ | ⟨h1, h2⟩
      · exact absurd (h2.symm.trans hx) ((by decide +kernel : ∀ k, k < 64 → ¬ nI k = -2) k (by omega))
      · refine Or.inl ⟨q + 1, by omega, hy1, hcov, fun j hj hn k' hk => ?_⟩
        by_cases hji : j = i
        · subst hji; have := q4 k' hk; omega
        · exact absurd hk (h2 j (by omega) hn k')
    · rcases h with ⟨k, h1, h2, h3, h4⟩ | ⟨h1, h2⟩
      · rw [hy1, h2, nI_leI (by omega) (by omega)] at hxy
        refine Or.inl ⟨k, h1, h2, h3, fun j hj hn k' hk => ?_⟩
        by_cases hji : j = i
        · subst hji; have := q4 k' hk; omega
        · exact h4 j (by omega) hn k' hk
      · exact absurd h1 hx
    · rcases h with ⟨k, h1, h2, h3, h4⟩ | ⟨h1, h2⟩
      · rw [hy1, h2, nI_leI (by omega) (by omega)] at hxy
        refine Or.inl ⟨q + 1, by omega, hy1, hcov, fun j hj hn k' hk => ?_⟩
        by_cases hji : j = i
        · subst hji; have := q4 k' hk; omega
        · have := h4 j (by omega) hn k' hk; omega
      · exact absurd h1 hx
  · exact absurd b e
theorem sv_nf_end {M : Nat} {fm : Nat → Nat} {g : Nat} {x : Int32} (hg : g ≠ 0) (h : sv_nf M fm g M x) : sv_good M fm x g := by
  rcases h with ⟨k, h1, h2, h3, h4⟩ | ⟨h1, h2⟩
  · refine Or.inl ⟨k, h1, h2, h3, fun k' => ?_⟩
    induction k' with
    | zero => exact fun hc => absurd hc hg
    | succ k' ih =>
      intro hc
      rcases hc with hc | ⟨j, hj, hc⟩
      · exact absurd hc hg
      · by_cases e : sv_rest g (fm j) = g
        · rw [e] at hc; have := ih hc; omega
        · exact h4 j hj e k' hc
  · refine Or.inr ⟨h1, fun k' => ?_⟩
    induction k' with
    | zero => exact hg
    | succ k' ih =>
      intro hc
      rcases hc with hc | ⟨j, hj, hc⟩
      · exact hg hc
      · by_cases e : sv_rest g (fm j) = g
        · rw [e] at hc; exact ih hc
        · exact h2 j hj e k' hc
