def sv_cnt (f : Nat → Bool) : Nat → Int32
  | 0 => 0
  | i + 1 => if f i = true then sv_cnt f i + 1 else sv_cnt f i
theorem sv_cnt_s (f : Nat → Bool) (i : Nat) : sv_cnt f (i + 1) = if f i = true then sv_cnt f i + 1 else sv_cnt f i := rfl
def sv_fs (f : Nat → Bool) : Nat → Nat → Int32
  | 0 => fun _ => -2
  | d + 1 => fun i => if f i = true then nI i else sv_fs f d (i + 1)
theorem sv_fs_s (f : Nat → Bool) (d i : Nat) : sv_fs f (d + 1) i = if f i = true then nI i else sv_fs f d (i + 1) := rfl
def sv_gs (f : Nat → Bool) : Nat → Int32
  | 0 => -2
  | i + 1 => if f i = true then nI i else sv_gs f i
theorem sv_gs_s (f : Nat → Bool) (i : Nat) : sv_gs f (i + 1) = if f i = true then nI i else sv_gs f i := rfl
def sv_fo (f : Nat → Bool) (g : Nat → Int32) : Nat → Nat → Int32 → Int32
  | 0 => fun _ x => x
  | d + 1 => fun i x => if f i = true then (if x = -2 then sv_fo f g d (i + 1) (g i) else if x = g i then sv_fo f g d (i + 1) x else 2) else sv_fo f g d (i + 1) x
theorem sv_fo_s (f : Nat → Bool) (g : Nat → Int32) (d i : Nat) (x : Int32) : sv_fo f g (d + 1) i x = if f i = true then (if x = -2 then sv_fo f g d (i + 1) (g i) else if x = g i then sv_fo f g d (i + 1) x else 2) else sv_fo f g d (i + 1) x := rfl
theorem sv_fs_none (f : Nat → Bool) : ∀ d i, i + d ≤ 256 → (sv_fs f d i = -2 ↔ ∀ j, i ≤ j → j < i + d → f j = false) := by
  intro d
  induction d with
  | zero => intro i _; exact ⟨fun _ j a b => by omega, fun _ => rfl⟩
  | succ d ih =>
    intro i hi
    rw [sv_fs_s]
    by_cases q : f i = true
    · rw [if_pos q]
      constructor
      · intro z
        exact absurd z ((by decide +kernel : ∀ k, k < 256 → ¬ nI k = -2) i (by omega))
      · intro z
        have := z i (Nat.le_refl i) (by omega)
        rw [q] at this
        exact absurd this (by decide)
    · rw [if_neg q, ih (i + 1) (by omega)]
      constructor
      · intro z j a b
        by_cases e : j = i
        · rw [e]; revert q; cases f i <;> simp
        · exact z j (by omega) (by omega)
      · intro z j a b
        exact z j (by omega) (by omega)
section
variable {w tp : Int32} {sh : Nat → Int32} {wp wv : Nat → Int64} {cf nd : Nat → Int32} {wa le : Nat → Int32} {M : Nat}
theorem sv_b1 {b : Bool} (h : b = true) : ¬ (if b = true then (1 : Int32) else 0) = 0 := by rw [if_pos h]; decide
theorem sv_b0 {b : Bool} (h : ¬ b = true) : (if b = true then (1 : Int32) else 0) = 0 := by rw [if_neg h]
theorem sv_Xseeds {post : Int32 → Prop} {g : Nat} (hM : M ≤ 256) (hg : g < 64) (hW : sv_W wp wv wa) (h : post (sv_cnt (fun j => sv_ft w tp sh wa (nI j) g) M)) :
    ∃ n, wX_seeds_13 post (nI g) w (nI M) tp sh wp wv cf nd n 0 0 := by
  have key : ∀ d i, i + d = M → wX_seeds_13 post (nI g) w (nI M) tp sh wp wv cf nd (d + 1) (sv_cnt (fun j => sv_ft w tp sh wa (nI j) g) i) (nI i) := by
    intro d
    induction d with
    | zero =>
      intro i hi
      obtain rfl : i = M := by omega
      exact br_t (nI_le (Nat.le_refl _) (by omega)) h
    | succ d ih =>
      intro i hi
      have nx := ih (i + 1) (by omega)
      rw [sv_cnt_s] at nx
      refine br_f (nI_ge (by omega) (by omega)) (sv_Xfits hg hW ?_)
      by_cases q : sv_ft w tp sh wa (nI i) g = true
      · rw [if_pos q] at nx
        exact br_f (sv_b1 q) (nm_e (nm_r (nI_1 i) nx))
      · rw [if_neg q] at nx
        exact br_t (sv_b0 q) (nm_r (nI_1 i) nx)
  exact ⟨M + 1, key M 0 (by omega)⟩
theorem sv_Yseeds {post : Int32 → Prop} {g : Nat} (hM : M ≤ 256) (hg : g < 64) (hm : (1 : Int32) <<< (w &&& 31) = nI M) (h : post (sv_cnt (fun j => sv_ft w tp sh wa (nI j) g) M)) :
    ∃ n, wY_seeds_14 post (nI g) w tp sh wa le n 0 0 := by
  have key : ∀ d i, i + d = M → wY_seeds_14 post (nI g) w tp sh wa le (d + 1) (sv_cnt (fun j => sv_ft w tp sh wa (nI j) g) i) (nI i) := by
    intro d
    induction d with
    | zero =>
      intro i hi
      obtain rfl : i = M := by omega
      exact br_t (by rw [hm]; exact nI_le (Nat.le_refl _) (by omega)) h
    | succ d ih =>
      intro i hi
      have nx := ih (i + 1) (by omega)
      rw [sv_cnt_s] at nx
      refine br_f (by rw [hm]; exact nI_ge (by omega) (by omega)) (sv_Yfits hg ?_)
      by_cases q : sv_ft w tp sh wa (nI i) g = true
      · rw [if_pos q] at nx
        exact br_f (sv_b1 q) (nm_e (nm_r (nI_1 i) nx))
      · rw [if_neg q] at nx
        exact br_t (sv_b0 q) (nm_r (nI_1 i) nx)
  exact ⟨M + 1, key M 0 (by omega)⟩
theorem sv_Xleast {post : Int32 → Prop} {g : Nat} (hM : M ≤ 256) (hg : g < 64) (hW : sv_W wp wv wa) (h : post (sv_fs (fun j => sv_ft w tp sh wa (nI j) g) M 0)) :
    ∃ n, wX_leastSeed_11 post (nI g) w (nI M) tp sh wp wv cf nd n 0 := by
  have key : ∀ d i, i + d = M → post (sv_fs (fun j => sv_ft w tp sh wa (nI j) g) d i) → wX_leastSeed_11 post (nI g) w (nI M) tp sh wp wv cf nd (d + 1) (nI i) := by
    intro d
    induction d with
    | zero =>
      intro i hi hz
      obtain rfl : i = M := by omega
      exact br_t (nI_le (Nat.le_refl _) (by omega)) hz
    | succ d ih =>
      intro i hi h
      rw [sv_fs_s] at h
      refine br_f (nI_ge (by omega) (by omega)) (sv_Xfits hg hW ?_)
      by_cases q : sv_ft w tp sh wa (nI i) g = true
      · rw [if_pos q] at h
        exact br_f (sv_b1 q) h
      · rw [if_neg q] at h
        exact br_t (sv_b0 q) (nm_r (nI_1 i) (ih (i + 1) (by omega) h))
  exact ⟨M + 1, key M 0 (by omega) h⟩
theorem sv_Yfirst {post : Int32 → Prop} {g : Nat} (hM : M ≤ 256) (hg : g < 64) (hm : (1 : Int32) <<< (w &&& 31) = nI M) (h : post (sv_fs (fun j => sv_ft w tp sh wa (nI j) g) M 0)) :
    wpY_firstSeed post (w, tp, sh, wa, le) (nI g) := by
  have key : ∀ d i, i + d = M → post (sv_fs (fun j => sv_ft w tp sh wa (nI j) g) d i) → wY_firstSeed_2 post (nI g) w tp sh wa le (d + 1) (nI i) := by
    intro d
    induction d with
    | zero =>
      intro i hi hz
      obtain rfl : i = M := by omega
      exact br_t (by rw [hm]; exact nI_le (Nat.le_refl _) (by omega)) hz
    | succ d ih =>
      intro i hi h
      rw [sv_fs_s] at h
      refine br_f (by rw [hm]; exact nI_ge (by omega) (by omega)) (sv_Yfits hg ?_)
      by_cases q : sv_ft w tp sh wa (nI i) g = true
      · rw [if_pos q] at h
        exact br_f (sv_b1 q) h
      · rw [if_neg q] at h
        exact br_t (sv_b0 q) (nm_r (nI_1 i) (ih (i + 1) (by omega) h))
  exact ⟨M + 1, key M 0 (by omega) h⟩
theorem sv_Xgreat {post : Int32 → Prop} {g : Nat} (hg : g < 64) (hW : sv_W wp wv wa) {sc : Int32} : ∀ i, i ≤ 256 → post (sv_gs (fun j => sv_ft w tp sh wa (nI j) g) i) →
    wX_greatestSeed_16 post (nI g) w sc tp sh wp wv cf nd (i + 1) (nI i + (-1)) := by
  intro i
  induction i with
  | zero => intro _ h; exact br_t (by decide) h
  | succ i ih =>
    intro hi h
    rw [sv_gs_s] at h
    rw [pk_m1]
    refine br_f (nI_pos (by omega)) (sv_Xfits hg hW ?_)
    by_cases q : sv_ft w tp sh wa (nI i) g = true
    · rw [if_pos q] at h
      exact br_f (sv_b1 q) h
    · rw [if_neg q] at h
      exact br_t (sv_b0 q) (nm_e (ih (by omega) h))
theorem sv_Ygreat {post : Int32 → Prop} {g : Nat} (hg : g < 64) : ∀ i, i ≤ 256 → post (sv_gs (fun j => sv_ft w tp sh wa (nI j) g) i) →
    wY_greatestSeed_19 post (nI g) w tp sh wa le (i + 1) (nI i + (-1)) := by
  intro i
  induction i with
  | zero => intro _ h; exact br_t (by decide) h
  | succ i ih =>
    intro hi h
    rw [sv_gs_s] at h
    rw [pk_m1]
    refine br_f (nI_pos (by omega)) (sv_Yfits hg ?_)
    by_cases q : sv_ft w tp sh wa (nI i) g = true
    · rw [if_pos q] at h
      exact br_f (sv_b1 q) h
    · rw [if_neg q] at h
      exact br_t (sv_b0 q) (nm_e (ih (by omega) h))
theorem sv_Xforced {post : Int32 → Prop} {g cy ch : Nat} (hM : M ≤ 256) (hg : g < 64) (hcy : cy < 16) (hch : ch < 4) (hW : sv_W wp wv wa)
    (h : post (sv_fo (fun j => sv_ft w tp sh wa (nI j) g) (fun j => sv_val w tp sh (nI j) cy ch) M 0 (-2))) :
    ∃ n, wX_forced_30 post (nI g) (nI cy) (nI ch) w (nI M) tp sh wp wv cf nd n (-2) 0 := by
  have key : ∀ d i x, i + d = M → post (sv_fo (fun j => sv_ft w tp sh wa (nI j) g) (fun j => sv_val w tp sh (nI j) cy ch) d i x) → wX_forced_30 post (nI g) (nI cy) (nI ch) w (nI M) tp sh wp wv cf nd (d + 1) x (nI i) := by
    intro d
    induction d with
    | zero =>
      intro i x hi hz
      obtain rfl : i = M := by omega
      exact br_t (nI_le (Nat.le_refl _) (by omega)) hz
    | succ d ih =>
      intro i x hi h
      rw [sv_fo_s] at h
      refine br_f (nI_ge (by omega) (by omega)) (sv_Xfits hg hW ?_)
      by_cases q : sv_ft w tp sh wa (nI i) g = true
      · rw [if_pos q] at h
        refine br_f (sv_b1 q) (sv_Xchain hcy hch ?_)
        by_cases q2 : x = -2
        · rw [if_pos q2] at h
          exact br_t q2 (nm_r (nI_1 i) (ih (i + 1) _ (by omega) h))
        · rw [if_neg q2] at h
          refine br_f q2 ?_
          by_cases q3 : x = sv_val w tp sh (nI i) cy ch
          · rw [if_pos q3] at h
            exact br_t q3 (nm_r (nI_1 i) (ih (i + 1) _ (by omega) (q3 ▸ h)))
          · rw [if_neg q3] at h
            exact br_f q3 h
      · rw [if_neg q] at h
        exact br_t (sv_b0 q) (nm_r (nI_1 i) (ih (i + 1) _ (by omega) h))
  exact ⟨M + 1, key M 0 _ (by omega) h⟩
theorem sv_Yforced2 {post : Int32 → Prop} {g cy ch : Nat} (hM : M ≤ 256) (hg : g < 64) (hcy : cy < 16) (hch : ch < 4) (hm : (1 : Int32) <<< (w &&& 31) = nI M) (h : post 2) :
    ∀ d i, i + d = M → wY_forced_26 post (nI g) (nI cy) (nI ch) w tp sh wa le (d + 1) 2 (nI i) := by
  intro d
  induction d with
  | zero =>
    intro i hi
    obtain rfl : i = M := by omega
    exact br_t (by rw [hm]; exact nI_le (Nat.le_refl _) (by omega)) h
  | succ d ih =>
    intro i hi
    have nx := ih (i + 1) (by omega)
    refine br_f (by rw [hm]; exact nI_ge (by omega) (by omega)) (sv_Yfits hg ?_)
    by_cases q : sv_ft w tp sh wa (nI i) g = true
    · refine br_f (sv_b1 q) (sv_Ychain hcy hch ?_)
      exact br_f (by decide) (br_c (fun _ => nm_r (nI_1 i) nx) (fun _ => nm_r (nI_1 i) nx))
    · exact br_t (sv_b0 q) (nm_r (nI_1 i) nx)
theorem sv_Yforced {post : Int32 → Prop} {g cy ch : Nat} (hM : M ≤ 256) (hg : g < 64) (hcy : cy < 16) (hch : ch < 4) (hm : (1 : Int32) <<< (w &&& 31) = nI M)
    (h : post (sv_fo (fun j => sv_ft w tp sh wa (nI j) g) (fun j => sv_val w tp sh (nI j) cy ch) M 0 (-2))) :
    ∃ n, wY_forced_26 post (nI g) (nI cy) (nI ch) w tp sh wa le n (-2) 0 := by
  have key : ∀ d i x, i + d = M → post (sv_fo (fun j => sv_ft w tp sh wa (nI j) g) (fun j => sv_val w tp sh (nI j) cy ch) d i x) → wY_forced_26 post (nI g) (nI cy) (nI ch) w tp sh wa le (d + 1) x (nI i) := by
    intro d
    induction d with
    | zero =>
      intro i x hi hz
      obtain rfl : i = M := by omega
      exact br_t (by rw [hm]; exact nI_le (Nat.le_refl _) (by omega)) hz
    | succ d ih =>
      intro i x hi h
      rw [sv_fo_s] at h
      refine br_f (by rw [hm]; exact nI_ge (by omega) (by omega)) (sv_Yfits hg ?_)
      by_cases q : sv_ft w tp sh wa (nI i) g = true
      · rw [if_pos q] at h
        refine br_f (sv_b1 q) (sv_Ychain hcy hch ?_)
        by_cases q2 : x = -2
        · rw [if_pos q2] at h
          exact br_t q2 (nm_r (nI_1 i) (ih (i + 1) _ (by omega) h))
        · rw [if_neg q2] at h
          refine br_f q2 ?_
          by_cases q3 : x = sv_val w tp sh (nI i) cy ch
          · rw [if_pos q3] at h
            exact br_t q3 (nm_r (nI_1 i) (ih (i + 1) _ (by omega) h))
          · rw [if_neg q3] at h
            exact br_f q3 (nm_r (nI_1 i) (sv_Yforced2 hM hg hcy hch hm h d (i + 1) (by omega)))
      · rw [if_neg q] at h
        exact br_t (sv_b0 q) (nm_r (nI_1 i) (ih (i + 1) _ (by omega) h))
  exact ⟨M + 1, key M 0 _ (by omega) h⟩
end
