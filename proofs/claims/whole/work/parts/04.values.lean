def sv_pb (x : Int32) : Nat → Int32
  | 0 => 0
  | i + 1 => sv_pb x i ^^^ ((x >>> (nI i &&& 31)) &&& 1)
def sv_ps (x : Int32) : Nat → Int32
  | 0 => 0
  | i + 1 => sv_ps x i + ((x >>> (nI i &&& 31)) &&& 1)
def sv_par (x : Int32) : Int32 := sv_pb x 8
theorem sv_psb (x : Int32) : ∀ i, ∃ s, s ≤ i ∧ sv_ps x i = nI s ∧ sv_pb x i = nI (s % 2) := by
  intro i
  induction i with
  | zero => exact ⟨0, Nat.le_refl 0, rfl, rfl⟩
  | succ i ih =>
    obtain ⟨s, h1, h2, h3⟩ := ih
    have e1 : sv_ps x (i + 1) = sv_ps x i + ((x >>> (nI i &&& 31)) &&& 1) := rfl
    have e2 : sv_pb x (i + 1) = sv_pb x i ^^^ ((x >>> (nI i &&& 31)) &&& 1) := rfl
    rw [e1, e2, h2, h3]
    rcases sv_bit01 (x >>> (nI i &&& 31)) with e | e
    · rw [e]
      refine ⟨s, by omega, Int32.add_zero _, ?_⟩
      exact Int32.xor_zero
    · rw [e]
      refine ⟨s + 1, by omega, nI_1 s, ?_⟩
      rcases (by omega : s % 2 = 0 ∨ s % 2 = 1) with q | q
      · rw [q, (by omega : (s + 1) % 2 = 1)]; decide
      · rw [q, (by omega : (s + 1) % 2 = 0)]; decide
theorem sv_par01 (x : Int32) : sv_par x = 0 ∨ sv_par x = 1 := by
  obtain ⟨s, _, _, h⟩ := sv_psb x 8
  rcases (by omega : s % 2 = 0 ∨ s % 2 = 1) with q | q
  · left; rw [q] at h; exact h
  · right; rw [q] at h; exact h
theorem sv_parY (x : Int32) : sv_ps x 8 - sv_ps x 8 / 2 * 2 = sv_par x := by
  obtain ⟨s, h1, h2, h3⟩ := sv_psb x 8
  rw [h2]
  refine Eq.trans (pk_rem (d := 2) (by omega) (by omega) (by omega)) ?_
  exact h3.symm
theorem sv_Xpar {post : Int32 → Prop} {x : Int32} (h : post (sv_par x)) : wpX_parity post x := by
  have key : ∀ d i, i + d = 8 → wX_parity_4 post x (d + 1) (sv_pb x i) (nI i) := by
    intro d
    induction d with
    | zero =>
      intro i hi
      obtain rfl : i = 8 := by omega
      exact br_t (by decide) h
    | succ d ih =>
      intro i hi
      exact br_f (nI_ge (b := 8) (by omega) (by decide)) (nm_e (nm_r (nI_1 i) (ih (i + 1) (by omega))))
  exact ⟨9, key 8 0 rfl⟩
theorem sv_Ypar {post : Int32 → Prop} {n tp : Int32} {sh wa le : Nat → Int32} {x : Int32} (h : post (sv_par x)) : wpY_parity post (n, tp, sh, wa, le) x := by
  have key : ∀ d i, i + d = 8 → wY_parity_4 post x n tp sh wa le (d + 1) (sv_ps x i) (nI i) := by
    intro d
    induction d with
    | zero =>
      intro i hi
      obtain rfl : i = 8 := by omega
      exact br_t (by decide) ⟨by decide, by rw [sv_parY]; exact h⟩
    | succ d ih =>
      intro i hi
      exact br_f (nI_ge (b := 8) (by omega) (by decide)) (nm_e (nm_r (nI_1 i) (ih (i + 1) (by omega))))
  exact ⟨9, key 8 0 rfl⟩
def sv_nx (w tp s : Int32) : Int32 := (s >>> ((1 : Int32) &&& 31)) ||| (sv_par (s &&& tp) <<< ((w - 1) &&& 31))
def sv_st (w tp s : Int32) : Nat → Int32
  | 0 => s
  | i + 1 => sv_nx w tp (sv_st w tp s i)
def sv_val (w tp : Int32) (sh : Nat → Int32) (s : Int32) (cy ch : Nat) : Int32 := sv_par (sv_st w tp s cy &&& sh ch)
section
variable {w sc tp : Int32} {sh : Nat → Int32} {wp wv : Nat → Int64} {cf nd : Nat → Int32} {wa le : Nat → Int32}
theorem sv_Xnext {post : Int32 → Prop} {s : Int32} (h : post (sv_nx w tp s)) : wpX_nextState post (w, sc, tp, sh, wp, wv, cf, nd) s := sv_Xpar h
theorem sv_Xchain {post : Int32 → Prop} {s : Int32} {cy ch : Nat} (hcy : cy < 16) (hch : ch < 4) (h : post (sv_val w tp sh s cy ch)) :
    wpX_chainValue post (w, sc, tp, sh, wp, wv, cf, nd) s (nI cy) (nI ch) := by
  have key : ∀ d i, i + d = cy → wX_chainValue_6 post (nI cy) (nI ch) w sc tp sh wp wv cf nd (d + 1) (sv_st w tp s i) (nI i) := by
    intro d
    induction d with
    | zero =>
      intro i hi
      obtain rfl : i = cy := by omega
      refine br_t (nI_le (Nat.le_refl _) (by omega)) ⟨vp_in_nI hch (by decide), sv_Xpar ?_⟩
      rw [nI_clamp (by omega)]
      exact h
    | succ d ih =>
      intro i hi
      exact br_f (nI_ge (by omega) (by omega)) (sv_Xnext (nm_r (nI_1 i) (ih (i + 1) (by omega))))
  exact ⟨cy + 1, key cy 0 (by omega)⟩
theorem sv_Ychain {post : Int32 → Prop} {s : Int32} {cy ch : Nat} (hcy : cy < 16) (hch : ch < 4) (h : post (sv_val w tp sh s cy ch)) :
    wpY_valueAt post (w, tp, sh, wa, le) s (nI cy) (nI ch) := by
  have key : ∀ d i, i + d = cy → wY_valueAt_6 post (nI cy) (nI ch) w tp sh wa le (d + 1) (sv_st w tp s i) (nI i) := by
    intro d
    induction d with
    | zero =>
      intro i hi
      obtain rfl : i = cy := by omega
      refine br_t (nI_le (Nat.le_refl _) (by omega)) ⟨vp_in_nI hch (by decide), sv_Ypar ?_⟩
      rw [nI_clamp (by omega)]
      exact h
    | succ d ih =>
      intro i hi
      exact br_f (nI_ge (by omega) (by omega)) (sv_Ypar (nm_e (nm_r (nI_1 i) (ih (i + 1) (by omega)))))
  exact ⟨cy + 1, key cy 0 (by omega)⟩
end
def sv_pl (k : Nat) : Int64 := (1 : Int64) <<< ((nI k).toInt64 &&& 63)
theorem sv_pl_bv : ∀ k, k < 64 → (sv_pl k).toBitVec = BitVec.twoPow 64 k := by decide +kernel
theorem sv_pl_bit {k i : Nat} (hk : k < 64) (hi : i < 64) : (sv_pl k).toBitVec.getLsbD i = decide (k = i) := by
  rw [sv_pl_bv k hk, BitVec.getLsbD_twoPow]
  simp [hk]
theorem sv_pl_e {cy ch : Nat} : (nI cy * 4) + nI ch = nI (4 * cy + ch) := by
  rw [show (4 : Int32) = nI 4 from rfl, pk_mul, nI_add, Nat.mul_comm]
theorem sv_Xplace {post : Int64 → Prop} {cy ch : Nat} (h : post (sv_pl (4 * cy + ch))) : wpX_placeBit post (nI cy) (nI ch) := by
  unfold wpX_placeBit
  rw [sv_pl_e]
  exact h
def sv_av (w tp : Int32) (sh : Nat → Int32) (s : Int32) : Nat → Int64
  | 0 => 0
  | k + 1 => if sv_val w tp sh s (k / 4) (k % 4) = 1 then sv_av w tp sh s k ||| sv_pl k else sv_av w tp sh s k
theorem sv_av_s (w tp : Int32) (sh : Nat → Int32) (s : Int32) (k : Nat) : sv_av w tp sh s (k + 1) = if sv_val w tp sh s (k / 4) (k % 4) = 1 then sv_av w tp sh s k ||| sv_pl k else sv_av w tp sh s k := rfl
theorem sv_av_bit (w tp : Int32) (sh : Nat → Int32) (s : Int32) {p : Nat} (hp : p < 64) : ∀ k, k ≤ 64 → (sv_av w tp sh s k).toBitVec.getLsbD p = (decide (p < k) && decide (sv_val w tp sh s (p / 4) (p % 4) = 1)) := by
  intro k
  induction k with
  | zero =>
    intro _
    rw [decide_eq_false (Nat.not_lt_zero p), Bool.false_and]
    exact BitVec.getLsbD_zero
  | succ k ih =>
    intro hk
    have ih := ih (by omega)
    rw [sv_av_s]
    by_cases e : p = k
    · subst e
      rw [decide_eq_true (by omega : p < p + 1), Bool.true_and]
      rw [decide_eq_false (by omega : ¬ p < p), Bool.false_and] at ih
      split
      · rename_i h
        rw [Int64.toBitVec_or, BitVec.getLsbD_or, ih, sv_pl_bit hp hp, decide_eq_true h]
        simp
      · rename_i h
        rw [ih, decide_eq_false h]
    · have e2 : decide (p < k + 1) = decide (p < k) := by
        by_cases q : p < k
        · rw [decide_eq_true q, decide_eq_true (by omega)]
        · rw [decide_eq_false q, decide_eq_false (by omega)]
      rw [e2, ← ih]
      split
      · rw [Int64.toBitVec_or, BitVec.getLsbD_or, sv_pl_bit (by omega) hp, decide_eq_false (fun z => e z.symm), Bool.or_false]
      · rfl
section
variable {w sc tp : Int32} {sh : Nat → Int32} {wp wv : Nat → Int64} {cf nd : Nat → Int32} {wa le : Nat → Int32}
theorem sv_Xall {post : Int64 → Prop} {s : Int32} (h : post (sv_av w tp sh s 64)) : wpX_allValues post (w, sc, tp, sh, wp, wv, cf, nd) s := by
  have inner : ∀ (J : Int64 → Int32 → Int32 → Prop) (cy : Nat), cy < 16 → J (sv_av w tp sh s (4 * (cy + 1))) (sv_st w tp s (cy + 1)) (nI (cy + 1)) →
      ∀ d i, i + d = 4 → wX_allValues_18 post J (sv_st w tp s cy) (nI cy) w sc tp sh wp wv cf nd (d + 1) (sv_av w tp sh s (4 * cy + i)) (nI i) := by
    intro J cy hcy hJ d
    induction d with
    | zero =>
      intro i hi
      obtain rfl : i = 4 := by omega
      exact br_t (by decide) (sv_Xnext (nm_r (nI_1 cy) hJ))
    | succ d ih =>
      intro i hi
      have nx := ih (i + 1) (by omega)
      have e1 : (4 * cy + i) / 4 = cy := by omega
      have e2 : (4 * cy + i) % 4 = i := by omega
      have es := sv_av_s w tp sh s (4 * cy + i)
      rw [e1, e2] at es
      rw [← Nat.add_assoc, es] at nx
      refine br_f (nI_ge (b := 4) (by omega) (by decide)) ⟨vp_in_nI (by omega) (by decide), sv_Xpar ?_⟩
      rw [nI_clamp (by omega)]
      by_cases q : sv_val w tp sh s cy i = 1
      · rw [if_pos q] at nx
        exact br_t q (sv_Xplace (nm_e (nm_r (nI_1 i) nx)))
      · rw [if_neg q] at nx
        exact br_f q (nm_r (nI_1 i) nx)
  have outer : ∀ d i, i + d = 16 → wX_allValues_8 post w sc tp sh wp wv cf nd (d + 1) (sv_av w tp sh s (4 * i)) (sv_st w tp s i) (nI i) := by
    intro d
    induction d with
    | zero =>
      intro i hi
      obtain rfl : i = 16 := by omega
      exact br_t (by decide) h
    | succ d ih =>
      intro i hi
      exact br_f (nI_ge (b := 16) (by omega) (by decide)) ⟨5, inner _ i (by omega) (ih (i + 1) (by omega)) 4 0 rfl⟩
  exact ⟨17, outer 16 0 rfl⟩
end
