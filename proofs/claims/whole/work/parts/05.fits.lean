def sv_W (wp wv : Nat → Int64) (wa : Nat → Int32) : Prop := ∀ c, c < 6 → ∀ p, p < 64 →
  (wa (64 * c + p) = 2 ∧ (wp c).toBitVec.getLsbD p = false) ∨
  (wa (64 * c + p) = 0 ∧ (wp c).toBitVec.getLsbD p = true ∧ (wv c).toBitVec.getLsbD p = false) ∨
  (wa (64 * c + p) = 1 ∧ (wp c).toBitVec.getLsbD p = true ∧ (wv c).toBitVec.getLsbD p = true)
def sv_ok (w tp : Int32) (sh wa : Nat → Int32) (s : Int32) (c p : Nat) : Prop := wa (64 * c + p) = 2 ∨ sv_val w tp sh s (p / 4) (p % 4) = wa (64 * c + p)
def sv_fc (w tp : Int32) (sh wa : Nat → Int32) (s : Int32) (c : Nat) : Prop := ∀ p, p < 64 → sv_ok w tp sh wa s c p
noncomputable def sv_fcb (w tp : Int32) (sh wa : Nat → Int32) (s : Int32) (c : Nat) : Bool := @decide (sv_fc w tp sh wa s c) (Classical.propDecidable _)
theorem sv_fcb_t {w tp : Int32} {sh wa : Nat → Int32} {s : Int32} {c : Nat} : sv_fcb w tp sh wa s c = true ↔ sv_fc w tp sh wa s c := by
  unfold sv_fcb
  exact @decide_eq_true_iff _ (Classical.propDecidable _)
noncomputable def sv_fk (w tp : Int32) (sh wa : Nat → Int32) (s : Int32) : Nat → Nat
  | 0 => 0
  | c + 1 => if sv_fcb w tp sh wa s c = true then sv_fk w tp sh wa s c ||| 2 ^ c else sv_fk w tp sh wa s c
theorem sv_fk_s (w tp : Int32) (sh wa : Nat → Int32) (s : Int32) (c : Nat) : sv_fk w tp sh wa s (c + 1) = if sv_fcb w tp sh wa s c = true then sv_fk w tp sh wa s c ||| 2 ^ c else sv_fk w tp sh wa s c := rfl
noncomputable def sv_fm (w tp : Int32) (sh wa : Nat → Int32) (s : Int32) : Nat := sv_fk w tp sh wa s 6
theorem sv_fk_lt (w tp : Int32) (sh wa : Nat → Int32) (s : Int32) : ∀ c, sv_fk w tp sh wa s c < 2 ^ c := by
  intro c
  induction c with
  | zero => exact Nat.one_pos
  | succ c ih =>
    rw [sv_fk_s]
    have h1 : 2 ^ (c + 1) = 2 ^ c * 2 := Nat.pow_succ 2 c
    split
    · exact Nat.or_lt_two_pow (by omega) (by have := Nat.two_pow_pos c; omega)
    · omega
theorem sv_fm_lt (w tp : Int32) (sh wa : Nat → Int32) (s : Int32) : sv_fm w tp sh wa s < 64 := sv_fk_lt w tp sh wa s 6
theorem sv_fk_tb (w tp : Int32) (sh wa : Nat → Int32) (s : Int32) (i : Nat) : ∀ c, (sv_fk w tp sh wa s c).testBit i = (decide (i < c) && sv_fcb w tp sh wa s i) := by
  intro c
  induction c with
  | zero =>
    rw [decide_eq_false (Nat.not_lt_zero i), Bool.false_and]
    exact Nat.zero_testBit i
  | succ c ih =>
    rw [sv_fk_s]
    by_cases e : i = c
    · subst e
      rw [decide_eq_true (by omega : i < i + 1), Bool.true_and]
      rw [decide_eq_false (by omega : ¬ i < i), Bool.false_and] at ih
      split
      · rename_i h
        rw [Nat.testBit_or, ih, Nat.testBit_two_pow_self, h]
        rfl
      · rename_i h
        rw [ih]
        revert h
        cases sv_fcb w tp sh wa s i <;> simp
    · have e2 : decide (i < c + 1) = decide (i < c) := by
        by_cases q : i < c
        · rw [decide_eq_true q, decide_eq_true (by omega)]
        · rw [decide_eq_false q, decide_eq_false (by omega)]
      rw [e2, ← ih]
      split
      · rw [Nat.testBit_or, Nat.testBit_two_pow_of_ne (fun z => e z.symm), Bool.or_false]
      · rfl
noncomputable def sv_ft (w tp : Int32) (sh wa : Nat → Int32) (s : Int32) (g : Nat) : Bool := decide (sv_fm w tp sh wa s &&& g = g)
theorem sv_ft_t {w tp : Int32} {sh wa : Nat → Int32} {s : Int32} {g : Nat} (hg : g < 64) : sv_ft w tp sh wa s g = true ↔ ∀ c, c < 6 → g.testBit c = true → sv_fc w tp sh wa s c := by
  unfold sv_ft
  rw [decide_eq_true_iff, sv_sub_and]
  constructor
  · intro h c hc hb
    have := h c hb
    unfold sv_fm at this
    rw [sv_fk_tb, decide_eq_true hc, Bool.true_and] at this
    exact sv_fcb_t.mp this
  · intro h c hb
    have hc : c < 6 := by
      apply Classical.byContradiction
      intro z
      have : g < 2 ^ c := Nat.lt_of_lt_of_le hg (Nat.pow_le_pow_right (n := 2) (by decide) (by omega : 6 ≤ c))
      rw [Nat.testBit_lt_two_pow this] at hb
      exact absurd hb (by decide)
    unfold sv_fm
    rw [sv_fk_tb, decide_eq_true hc, Bool.true_and]
    exact sv_fcb_t.mpr (h c hc hb)
theorem sv_cond {w tp : Int32} {sh wa : Nat → Int32} {wp wv : Nat → Int64} {s : Int32} {c : Nat} (hW : sv_W wp wv wa) (hc : c < 6) :
    ((sv_av w tp sh s 64 ^^^ wv c) &&& wp c = 0) ↔ sv_fc w tp sh wa s c := by
  have hb : ∀ p, p < 64 → (((sv_av w tp sh s 64 ^^^ wv c) &&& wp c).toBitVec.getLsbD p = false ↔ sv_ok w tp sh wa s c p) := by
    intro p hp
    rw [Int64.toBitVec_and, Int64.toBitVec_xor, BitVec.getLsbD_and, BitVec.getLsbD_xor, sv_av_bit w tp sh s hp 64 (Nat.le_refl _), decide_eq_true hp, Bool.true_and]
    have hv : sv_val w tp sh s (p / 4) (p % 4) = 0 ∨ sv_val w tp sh s (p / 4) (p % 4) = 1 := sv_par01 _
    unfold sv_ok
    rcases hW c hc p hp with ⟨a, b⟩ | ⟨a, b, d⟩ | ⟨a, b, d⟩
    · rw [a, b]; simp
    · rw [a, b, d]
      rcases hv with e | e <;> rw [e] <;> decide
    · rw [a, b, d]
      rcases hv with e | e <;> rw [e] <;> decide
  constructor
  · intro h p hp
    rw [← hb p hp, h]
    exact BitVec.getLsbD_zero
  · intro h
    apply Int64.toBitVec_inj.mp
    apply BitVec.eq_of_getLsbD_eq
    intro p hp
    rw [(hb p hp).mpr (h p hp)]
    exact BitVec.getLsbD_zero.symm
section
variable {w sc tp : Int32} {sh : Nat → Int32} {wp wv : Nat → Int64} {cf nd : Nat → Int32} {wa le : Nat → Int32}
theorem sv_Xfitted {post : Int32 → Prop} {s : Int32} (hW : sv_W wp wv wa) (h : post (nI (sv_fm w tp sh wa s))) : wpX_fittedBy post (w, sc, tp, sh, wp, wv, cf, nd) s := by
  have key : ∀ d i, i + d = 6 → wX_fittedBy_12 post (sv_av w tp sh s 64) w sc tp sh wp wv cf nd (d + 1) (nI (sv_fk w tp sh wa s i)) (nI i) := by
    intro d
    induction d with
    | zero =>
      intro i hi
      obtain rfl : i = 6 := by omega
      exact br_t (by decide) h
    | succ d ih =>
      intro i hi
      have nx := ih (i + 1) (by omega)
      rw [sv_fk_s] at nx
      have hin : vp_in (nI i) 6 := vp_in_nI (by omega) (by decide)
      refine br_f (nI_ge (b := 6) (by omega) (by decide)) ⟨hin, hin, ?_⟩
      rw [nI_clamp (by omega)]
      refine nm_e ?_
      by_cases q : sv_fc w tp sh wa s i
      · rw [if_pos (sv_fcb_t.mpr q)] at nx
        refine br_t ((sv_cond hW (by omega)).mpr q) (nm_r ?_ (nm_r (nI_1 i) nx))
        rw [sv_sh1 i (by omega), nx_or]
      · rw [if_neg (fun z => q (sv_fcb_t.mp z))] at nx
        exact br_f (fun z => q ((sv_cond hW (by omega)).mp z)) (nm_r (nI_1 i) nx)
  exact sv_Xall ⟨7, key 6 0 rfl⟩
theorem sv_Xfits {post : Int32 → Prop} {s : Int32} {g : Nat} (hg : g < 64) (hW : sv_W wp wv wa) (h : post (if sv_ft w tp sh wa s g = true then 1 else 0)) : wpX_fits post (w, sc, tp, sh, wp, wv, cf, nd) s (nI g) := by
  refine sv_Xfitted hW ?_
  have hm := sv_fm_lt w tp sh wa s
  have hl : sv_fm w tp sh wa s &&& g < 64 := Nat.lt_of_le_of_lt Nat.and_le_right hg
  rw [nx_and]
  have e : (nI (sv_fm w tp sh wa s &&& g) = nI g) ↔ sv_ft w tp sh wa s g = true := by
    rw [nI_eq (by omega) (by omega)]
    unfold sv_ft
    exact decide_eq_true_iff.symm
  by_cases q : sv_ft w tp sh wa s g = true
  · rw [if_pos q] at h
    exact br_t (e.mpr q) h
  · rw [if_neg q] at h
    exact br_f (fun z => q (e.mp z)) h
theorem sv_Yfits {post : Int32 → Prop} {s : Int32} {g : Nat} (hg : g < 64) (h : post (if sv_ft w tp sh wa s g = true then 1 else 0)) : wpY_fits post (w, tp, sh, wa, le) s (nI g) := by
  have inner : ∀ (J : Int32 → Prop) (c : Nat), c < 6 → ((g.testBit c = true → sv_fc w tp sh wa s c) → J (nI (c + 1))) →
      ∀ d i, i + d = 64 → (∀ p, p < i → g.testBit c = true → sv_ok w tp sh wa s c p) → wY_fits_11 post J s (nI g) (nI c) w tp sh wa le (d + 1) (nI i) := by
    intro J c hc hJ d
    induction d with
    | zero =>
      intro i hi hp
      obtain rfl : i = 64 := by omega
      exact br_t (by decide) (nm_r (nI_1 c) (hJ (fun hb p hp64 => hp p hp64 hb)))
    | succ d ih =>
      intro i hi hp
      have e : (64 : Int32) * nI c + nI i = nI (64 * c + i) := by
        rw [show (64 : Int32) = nI 64 from rfl, pk_mul, nI_add]
      have nx : (g.testBit c = true → sv_ok w tp sh wa s c i) → wY_fits_11 post J s (nI g) (nI c) w tp sh wa le (d + 1) (nI (i + 1)) := by
        intro ho
        apply ih (i + 1) (by omega)
        intro p hpi
        by_cases q : p = i
        · rw [q]; exact ho
        · exact hp p (by omega)
      refine br_f (nI_ge (b := 64) (by omega) (by decide)) ?_
      rw [e]
      refine ⟨vp_in_nI (by omega) (by decide), nm_r (e' := wa (64 * c + i)) (by rw [nI_clamp (by omega)]) ?_⟩
      by_cases hb : g.testBit c = true
      · refine br_t ((sv_sbit g hg c hc).mpr hb) ?_
        by_cases h2 : wa (64 * c + i) = 2
        · exact br_t h2 (nm_r (nI_1 i) (nx (fun _ => Or.inl h2)))
        · refine br_f h2 ⟨by decide, by decide, ?_⟩
          have d4 : nI i / 4 = nI (i / 4) := pk_div (d := 4) (by omega) (by omega) (by omega)
          have r4 : nI i - nI i / 4 * 4 = nI (i % 4) := pk_rem (d := 4) (by omega) (by omega) (by omega)
          rw [r4, d4]
          refine sv_Ychain (by omega) (by omega) ?_
          by_cases hv : sv_val w tp sh s (i / 4) (i % 4) = wa (64 * c + i)
          · exact br_t hv (nm_r (nI_1 i) (nx (fun _ => Or.inr hv)))
          · refine br_f hv ?_
            rw [if_neg] at h
            · exact h
            · intro z
              rcases (sv_ft_t hg).mp z c hc hb i (by omega) with z | z
              · exact h2 z
              · exact hv z
      · exact br_f (fun z => hb ((sv_sbit g hg c hc).mp z)) (nm_r (nI_1 i) (nx (fun z => absurd z hb)))
  have outer : ∀ d c, c + d = 6 → (∀ c', c' < c → g.testBit c' = true → sv_fc w tp sh wa s c') → wY_fits_2 post s (nI g) w tp sh wa le (d + 1) (nI c) := by
    intro d
    induction d with
    | zero =>
      intro c hc hp
      obtain rfl : c = 6 := by omega
      rw [if_pos ((sv_ft_t hg).mpr hp)] at h
      exact br_t (by decide) h
    | succ d ih =>
      intro c hc hp
      refine br_f (nI_ge (b := 6) (by omega) (by decide)) ⟨65, inner _ c (by omega) (fun hq => ?_) 64 0 rfl (fun p hp => absurd hp (Nat.not_lt_zero p))⟩
      apply ih (c + 1) (by omega)
      intro c' hc'
      by_cases q : c' = c
      · rw [q]; exact hq
      · exact hp c' (by omega)
  exact ⟨7, outer 6 0 rfl (fun c hc => absurd hc (Nat.not_lt_zero c))⟩
end
