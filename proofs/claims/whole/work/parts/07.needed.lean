theorem sv_restI : ∀ g, g < 64 → ∀ f, f < 64 → nI g &&& (nI f ^^^ (-1)) = nI (sv_rest g f) := by decide +kernel
section
variable {w tp : Int32} {sh : Nat → Int32} {wp wv : Nat → Int64} {cf nd : Nat → Int32} {wa le : Nat → Int32} {M : Nat} {fm : Nat → Nat}
theorem sv_Xneed {post : Int32 → Prop} {g : Nat} (hM : M ≤ 256) (hg : g < 64) (hg0 : g ≠ 0) (hfm : ∀ j, fm j < 64) (hcf : ∀ j, j < M → cf j = nI (fm j)) (hnd : ∀ g', g' < g → sv_good M fm (nd g') g')
    (h : ∀ x, sv_good M fm x g → post x) : wpX_neededFor post (w, nI M, tp, sh, wp, wv, cf, nd) (nI g) := by
  have key : ∀ d i x, i + d = M → sv_nf M fm g i x → wX_neededFor_5 post (nI g) w (nI M) tp sh wp wv cf nd (d + 1) x (nI i) := by
    intro d
    induction d with
    | zero =>
      intro i x hi hx
      obtain rfl : i = M := by omega
      exact br_t (nI_le (Nat.le_refl _) (by omega)) (h x (sv_nf_end hg0 hx))
    | succ d ih =>
      intro i x hi hx
      have hr := sv_rest_le g (fm i)
      refine br_f (nI_ge (by omega) (by omega)) ⟨vp_in_nI (by omega) (by decide), nm_r (e' := nI (sv_rest g (fm i))) ?_ ?_⟩
      · rw [nI_clamp (by omega), hcf i (by omega), sv_restI g hg (fm i) (hfm i)]
      · by_cases e : sv_rest g (fm i) = g
        · refine br_t (by rw [e]) (nm_r (nI_1 i) (ih (i + 1) x (by omega) (sv_nf_same e hx)))
        · have hin : vp_in (nI (sv_rest g (fm i))) 64 := vp_in_nI (by omega) (by decide)
          refine br_f (fun z => e ((nI_eq (by omega) (by omega)).mp z)) ⟨hin, ?_⟩
          rw [nI_clamp (by omega)]
          have hy := hnd (sv_rest g (fm i)) (by omega)
          by_cases e2 : nd (sv_rest g (fm i)) = -2
          · exact br_t e2 (nm_r (nI_1 i) (ih (i + 1) x (by omega) (sv_nf_none hy hg e2 hx)))
          · obtain ⟨t1, t2, t3⟩ := sv_nf_take (by omega) hy hg e e2 hx
            refine br_f e2 ⟨hin, nm_e (br_c (fun z => nm_r (nI_1 i) (ih (i + 1) _ (by omega) (t1 z))) (fun z => br_c (fun q => nm_r (nI_1 i) (ih (i + 1) _ (by omega) (t2 z q))) (fun q => nm_r (nI_1 i) (ih (i + 1) _ (by omega) (t3 z q)))))⟩
  exact ⟨M + 1, key M 0 _ (by omega) (sv_nf_0 M fm g)⟩
theorem sv_Xneed45 {post : Int32 → SX → Prop} {S : Nat} (hM : M ≤ 256) (hS : S < 64) (hfm : ∀ j, fm j < 64) (hcf : ∀ j, j < M → cf j = nI (fm j))
    (h : ∀ x nd', sv_good M fm x S → post x (w, nI M, tp, sh, wp, wv, cf, nd')) :
    ∀ d i nd, i + d = S + 1 → 0 < i → (∀ g, g < i → sv_good M fm (nd g) g) → wX_seedsNeeded_45 post (nI S) w (nI M) tp (d + 1) (nI i) sh wp wv cf nd := by
  intro d
  induction d with
  | zero =>
    intro i nd hi _ hnd
    obtain rfl : i = S + 1 := by omega
    refine br_t (nI_lt (by omega) (by omega)) ⟨vp_in_nI hS (by decide), ?_⟩
    rw [nI_clamp (by omega)]
    exact h _ nd (hnd S (by omega))
  | succ d ih =>
    intro i nd hi h0 hnd
    refine br_f (nI_nlt (by omega) (by omega)) (sv_Xneed hM (by omega) (by omega) hfm hcf hnd (fun x hx => ⟨vp_in_nI (by omega) (by decide), nm_e (nm_r (nI_1 i) (ih (i + 1) _ (by omega) (by omega) ?_))⟩))
    intro g hg
    rw [nI_clamp (by omega)]
    by_cases e : g = i
    · rw [e, pk_us]; exact hx
    · rw [pk_un e]; exact hnd g (by omega)
theorem sv_Xneeded {post : Int32 → SX → Prop} {S : Nat} (hM : M ≤ 256) (hS : S < 64) (hW : sv_W wp wv wa)
    (h : ∀ x cf' nd', sv_good M (fun j => sv_fm w tp sh wa (nI j)) x S → post x (w, nI M, tp, sh, wp, wv, cf', nd')) :
    ∃ n, wX_seedsNeeded_11 post (nI S) w (nI M) tp n 0 sh wp wv cf nd := by
  have key : ∀ d i cf, i + d = M → (∀ j, j < i → cf j = nI (sv_fm w tp sh wa (nI j))) → wX_seedsNeeded_11 post (nI S) w (nI M) tp (d + 1) (nI i) sh wp wv cf nd := by
    intro d
    induction d with
    | zero =>
      intro i cf hi hcf
      obtain rfl : i = M := by omega
      refine br_t (nI_le (Nat.le_refl _) (by omega)) (nm_e ⟨S + 1, ?_⟩)
      refine sv_Xneed45 (fm := fun j => sv_fm w tp sh wa (nI j)) hM hS (fun j => sv_fm_lt w tp sh wa (nI j)) hcf (fun x nd' hx => h x cf nd' hx) S 1 _ (by omega) (by omega) ?_
      intro g hg
      obtain rfl : g = 0 := by omega
      exact sv_good_0 _ _
    | succ d ih =>
      intro i cf hi hcf
      refine br_f (nI_ge (by omega) (by omega)) (sv_Xfitted hW ⟨vp_in_nI (by omega) (by decide), nm_e (nm_r (nI_1 i) (ih (i + 1) _ (by omega) ?_))⟩)
      intro j hj
      rw [nI_clamp (by omega)]
      by_cases e : j = i
      · rw [e, pk_us]
      · rw [pk_un e]; exact hcf j (by omega)
  exact ⟨M + 1, key M 0 cf (by omega) (fun j hj => absurd hj (Nat.not_lt_zero j))⟩
theorem sv_Y75off {post : Int32 → SY → Prop} {J : Int32 → (Nat → Int32) → (Nat → Int32) → (Nat → Int32) → Prop} {x1 : Int32} {P : Nat} (h : J (nI (P + 1)) sh wa le) :
    ∃ n, wY_seedsNeeded_75 post J x1 (nI P) 0 w tp n 0 sh wa le := by
  have key : ∀ d i, i + d = 64 → wY_seedsNeeded_75 post J x1 (nI P) 0 w tp (d + 1) (nI i) sh wa le := by
    intro d
    induction d with
    | zero =>
      intro i hi
      obtain rfl : i = 64 := by omega
      exact br_t (by decide) (nm_r (nI_1 P) h)
    | succ d ih =>
      intro i hi
      exact br_f (nI_ge (b := 64) (by omega) (by decide)) (br_t rfl (nm_r (nI_1 i) (ih (i + 1) (by omega))))
  exact ⟨65, key 64 0 rfl⟩
theorem sv_Y75on {post : Int32 → SY → Prop} {J : Int32 → (Nat → Int32) → (Nat → Int32) → (Nat → Int32) → Prop} {x1 : Int32} {P : Nat} {one : Nat → Bool} (hP0 : P ≠ 0) (hP : P < 64) (ho : one P = true)
    (hle : ∀ t, t < 64 → le t = nI (sv_L one P t)) (h : ∀ le', (∀ t, t < 64 → le' t = nI (sv_L one (P + 1) t)) → J (nI (P + 1)) sh wa le') :
    ∃ n, wY_seedsNeeded_75 post J x1 (nI P) 1 w tp n 0 sh wa le := by
  have key : ∀ d i le, i + d = 64 → (∀ t, t < 64 → le t = nI (sv_Li one P i t)) → wY_seedsNeeded_75 post J x1 (nI P) 1 w tp (d + 1) (nI i) sh wa le := by
    intro d
    induction d with
    | zero =>
      intro i le hi hl
      obtain rfl : i = 64 := by omega
      refine br_t (by decide) (nm_r (nI_1 P) (h le ?_))
      intro t ht
      rw [hl t ht, sv_Li_64 one P ht]
    | succ d ih =>
      intro i le hi hl
      refine br_f (nI_ge (b := 64) (by omega) (by decide)) (br_f (by decide) ?_)
      have hor : i ||| P < 64 := Nat.or_lt_two_pow (n := 6) (by omega) (by omega)
      rw [nx_and, nx_or]
      have hle : i &&& P ≤ P := Nat.and_le_right
      by_cases z : i &&& P = 0
      · refine br_t (by rw [z]; rfl) ⟨vp_in_nI (by omega) (by decide), vp_in_nI hor (by decide), ?_⟩
        rw [nI_clamp (by omega), nI_clamp (by omega), hl i (by omega), hl _ hor, sv_Li_src one hP0 z, sv_Li_dst one z, nI_1]
        have b1 := sv_L_le one P i
        have b2 := sv_L_le one P (i ||| P)
        have en := sv_Li_new ho z
        refine pk_le (sv_L one P (i ||| P)) (sv_L one P i + 1) (fun q => ?_) (fun q => ?_)
        · refine nm_r (nI_1 i) (ih (i + 1) le (by omega) ?_)
          intro t ht
          rw [hl t ht]
          by_cases e : t = i ||| P
          · subst e
            rw [en, if_neg (by omega), sv_Li_dst one z]
          · rw [sv_Li_other one e]
        · refine ⟨vp_in_nI (by omega) (by decide), vp_in_nI hor (by decide), nm_e (nm_r (nI_1 i) (ih (i + 1) _ (by omega) ?_))⟩
          intro t ht
          by_cases e : t = i ||| P
          · subst e
            rw [pk_us, en, if_pos (by omega)]
          · rw [pk_un e, hl t ht, sv_Li_other one e]
      · refine br_f (fun q => z ((nI_eq (b := 0) (by omega) (by omega)).mp q)) (nm_r (nI_1 i) (ih (i + 1) le (by omega) ?_))
        intro t ht
        rw [hl t ht, sv_Li_skip one z]
  exact ⟨65, key 64 0 le rfl (fun t ht => by rw [hle t ht, sv_Li_0])⟩
noncomputable def sv_one (w tp : Int32) (sh wa : Nat → Int32) (M S P : Nat) : Bool := decide (sv_rest P S = 0) && decide (¬ sv_fs (fun j => sv_ft w tp sh wa (nI j) P) M 0 = -2)
theorem sv_Y42 {post : Int32 → SY → Prop} {S : Nat} (hM : M ≤ 256) (hS : S < 64) (hm : (1 : Int32) <<< (w &&& 31) = nI M)
    (h : ∀ le', post (if sv_L (sv_one w tp sh wa M S) 64 S = 100 then -2 else nI (sv_L (sv_one w tp sh wa M S) 64 S)) (w, tp, sh, wa, le')) :
    ∀ d P le, P + d = 64 → 0 < P → (∀ t, t < 64 → le t = nI (sv_L (sv_one w tp sh wa M S) P t)) → wY_seedsNeeded_42 post (nI S) w tp (d + 1) (nI P) sh wa le := by
  intro d
  induction d with
  | zero =>
    intro P le hP _ hle
    obtain rfl : P = 64 := by omega
    have hh := h le
    have b := sv_L_le (sv_one w tp sh wa M S) 64 S
    refine br_t (by decide) ⟨vp_in_nI hS (by decide), ?_⟩
    rw [nI_clamp (by omega), hle S hS]
    refine pk_eq (sv_L (sv_one w tp sh wa M S) 64 S) 100 (fun e => ?_) (fun e => ⟨vp_in_nI hS (by decide), ?_⟩)
    · rw [if_pos e] at hh
      exact hh
    · rw [if_neg e] at hh
      exact hh
  | succ d ih =>
    intro P le hP h0 hle
    have off : sv_one w tp sh wa M S P = false → ∃ n, wY_seedsNeeded_75 post (wY_seedsNeeded_42 post (nI S) w tp (d + 1)) (nI S) (nI P) 0 w tp n 0 sh wa le := by
      intro hof
      apply sv_Y75off
      apply ih (P + 1) le (by omega) (by omega)
      intro t ht
      rw [hle t ht, ← sv_Li_64 _ P ht, sv_Li_off hof]
    refine br_f (nI_ge (b := 64) (by omega) (by decide)) ?_
    rw [sv_restI P (by omega) S hS]
    have hr := sv_rest_le P S
    by_cases e : sv_rest P S = 0
    · refine br_t (by rw [e]; rfl) (sv_Yfirst hM (by omega) hm ?_)
      by_cases q : sv_fs (fun j => sv_ft w tp sh wa (nI j) P) M 0 = -2
      · refine br_t q (off ?_)
        unfold sv_one
        have q2 : ¬ ¬ sv_fs (fun j => sv_ft w tp sh wa (nI j) P) M 0 = -2 := fun z => z q
        rw [decide_eq_false q2, Bool.and_false]
      · refine br_f q (sv_Y75on (one := sv_one w tp sh wa M S) (by omega) (by omega) ?_ hle (fun le' hl => ih (P + 1) le' (by omega) (by omega) hl))
        unfold sv_one
        rw [decide_eq_true e, decide_eq_true q]
        rfl
    · refine br_f (fun z => e ((nI_eq (b := 0) (by omega) (by omega)).mp z)) (off ?_)
      unfold sv_one
      rw [decide_eq_false e, Bool.false_and]
theorem sv_Yneeded {post : Int32 → SY → Prop} {S : Nat} (hM : M ≤ 256) (hS : S < 64) (hm : (1 : Int32) <<< (w &&& 31) = nI M)
    (h : ∀ le', post (if sv_L (sv_one w tp sh wa M S) 64 S = 100 then -2 else nI (sv_L (sv_one w tp sh wa M S) 64 S)) (w, tp, sh, wa, le')) :
    ∃ n, wY_seedsNeeded_12 post (nI S) w tp n 0 sh wa le := by
  have key : ∀ d i le, i + d = 64 → (∀ t, t < i → le t = nI (if t = 0 then 0 else 100)) → wY_seedsNeeded_12 post (nI S) w tp (d + 1) (nI i) sh wa le := by
    intro d
    induction d with
    | zero =>
      intro i le hi hle
      obtain rfl : i = 64 := by omega
      refine br_t (by decide) ⟨64, sv_Y42 hM hS hm h 63 1 le (by omega) (by omega) ?_⟩
      intro t ht
      rw [hle t ht, sv_L_1]
    | succ d ih =>
      intro i le hi hle
      refine br_f (nI_ge (b := 64) (by omega) (by decide)) (pk_eq i 0 (fun e => ?_) (fun e => ?_))
      · refine ⟨vp_in_nI (by omega) (by decide), nm_e (nm_r (nI_1 i) (ih (i + 1) _ (by omega) ?_))⟩
        intro t ht
        rw [nI_clamp (by omega)]
        obtain rfl : t = i := by omega
        rw [pk_us, if_pos e]
        rfl
      · refine ⟨vp_in_nI (by omega) (by decide), nm_e (nm_r (nI_1 i) (ih (i + 1) _ (by omega) ?_))⟩
        intro t ht
        rw [nI_clamp (by omega)]
        by_cases q : t = i
        · subst q
          rw [pk_us, if_neg e]
          rfl
        · rw [pk_un q]
          exact hle t (by omega)
  exact ⟨65, key 64 0 le rfl (fun t ht => absurd ht (Nat.not_lt_zero t))⟩
theorem sv_meet {S : Nat} {x : Int32} (hM : M ≤ 256) (hS : S < 64) (hx : sv_good M (fun j => sv_fm w tp sh wa (nI j)) x S) :
    (if sv_L (sv_one w tp sh wa M S) 64 S = 100 then -2 else nI (sv_L (sv_one w tp sh wa M S) 64 S)) = x := by
  have h1 : ∀ P, sv_one w tp sh wa M S P = true → ∃ j, j < M ∧ sv_sub P (sv_fm w tp sh wa (nI j)) := by
    intro P ho
    unfold sv_one at ho
    rw [Bool.and_eq_true, decide_eq_true_iff, decide_eq_true_iff] at ho
    apply Classical.byContradiction
    intro z
    apply ho.2
    rw [sv_fs_none _ M 0 (by omega)]
    intro j _ hj
    cases q : sv_ft w tp sh wa (nI j) P with
    | false => rfl
    | true =>
      exfalso
      unfold sv_ft at q
      rw [decide_eq_true_iff] at q
      exact z ⟨j, by omega, sv_sub_and.mp q⟩
  have h2 : ∀ P, P ≠ 0 → P < 64 → sv_sub P S → (∃ j, j < M ∧ sv_sub P (sv_fm w tp sh wa (nI j))) → sv_one w tp sh wa M S P = true := by
    intro P _ _ hs ⟨j, hj, hp⟩
    unfold sv_one
    rw [Bool.and_eq_true, decide_eq_true_iff, decide_eq_true_iff]
    constructor
    · apply Nat.eq_of_testBit_eq
      intro i
      rw [sv_rest_tb, Nat.zero_testBit]
      have := hs i
      revert this
      cases P.testBit i <;> cases S.testBit i <;> simp
    · intro z
      rw [sv_fs_none _ M 0 (by omega)] at z
      have a := z j (Nat.zero_le j) (by omega)
      have b : sv_ft w tp sh wa (nI j) P = true := by
        unfold sv_ft
        rw [decide_eq_true_iff]
        exact sv_sub_and.mpr hp
      rw [b] at a
      exact absurd a (by decide)
  obtain ⟨a, b⟩ := sv_final hS h1 h2 hx
  by_cases e : sv_L (sv_one w tp sh wa M S) 64 S = 100
  · rw [if_pos e]; exact (a e).symm
  · rw [if_neg e]; exact (b e).symm
end
