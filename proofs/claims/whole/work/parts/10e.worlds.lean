/-! the list of all worlds -/
def lvW (s : Nat) : Nat → List Nat
  | 0 => []
  | k + 1 => lvW s k ++ (if pc (k + 1) = s then [k + 1] else [])
def WLm (A : Nat) : Nat → List Nat
  | 0 => []
  | m + 1 => WLm A m ++ lvW (m + 1) A
def WL (n m : Nat) : List Nat := WLm (2 ^ n - 1) m
theorem WL_len : ∀ n, n < 9 → ∀ m, m < 4 → (WL n m).length ≤ 92 := by decide +kernel
theorem WL_first : ∀ n, n < 9 → 0 < n → ∀ m, m < 4 → 0 < m → 0 < (WL n m).length ∧ (WL n m).getD 0 0 = 1 := by decide +kernel
theorem WL_0 : ∀ m, m < 4 → (WL 0 m).length = 0 := by decide +kernel
theorem mem_lvW {s w : Nat} : ∀ {k : Nat}, w ∈ lvW s k ↔ 0 < w ∧ w ≤ k ∧ pc w = s := by
  intro k
  induction k with
  | zero =>
    constructor
    · intro h; exact absurd h List.not_mem_nil
    · rintro ⟨h1, h2, _⟩; omega
  | succ k ih =>
    show w ∈ lvW s k ++ _ ↔ _
    rw [List.mem_append, ih]
    by_cases h : pc (k + 1) = s
    · rw [if_pos h, List.mem_singleton]
      constructor
      · rintro (⟨h1, h2, h3⟩ | rfl)
        · exact ⟨h1, by omega, h3⟩
        · exact ⟨by omega, by omega, h⟩
      · rintro ⟨h1, h2, h3⟩
        by_cases e : w = k + 1
        · exact Or.inr e
        · exact Or.inl ⟨h1, by omega, h3⟩
    · rw [if_neg h]
      constructor
      · rintro (⟨h1, h2, h3⟩ | hm)
        · exact ⟨h1, by omega, h3⟩
        · exact absurd hm List.not_mem_nil
      · rintro ⟨h1, h2, h3⟩
        refine Or.inl ⟨h1, ?_, h3⟩
        by_cases e : w = k + 1
        · subst e; exact absurd h3 h
        · omega
theorem mem_WLm {A w : Nat} : ∀ {m : Nat}, w ∈ WLm A m ↔ 0 < w ∧ w ≤ A ∧ 0 < pc w ∧ pc w ≤ m := by
  intro m
  induction m with
  | zero =>
    constructor
    · intro h; exact absurd h List.not_mem_nil
    · rintro ⟨_, _, h1, h2⟩; omega
  | succ m ih =>
    show w ∈ WLm A m ++ _ ↔ _
    rw [List.mem_append, ih, mem_lvW]
    constructor
    · rintro (⟨h1, h2, h3, h4⟩ | ⟨h1, h2, h3⟩)
      · exact ⟨h1, h2, h3, by omega⟩
      · exact ⟨h1, h2, by omega, by omega⟩
    · rintro ⟨h1, h2, h3, h4⟩
      by_cases e : pc w = m + 1
      · exact Or.inr ⟨h1, h2, e⟩
      · exact Or.inl ⟨h1, h2, h3, by omega⟩
theorem mem_WL {n m w : Nat} (hn : n ≤ 8) : w ∈ WL n m ↔ 0 < w ∧ w < 2 ^ n ∧ pc w ≤ m := by
  unfold WL
  rw [mem_WLm]
  have h1 := p2_1 n
  have h2 := p2_9 hn
  constructor
  · rintro ⟨a, b, c, d⟩; exact ⟨a, by omega, d⟩
  · rintro ⟨a, b, c⟩; exact ⟨a, by omega, pc_pos w (by omega) a, c⟩
theorem WL_lt {n m w : Nat} (hn : n ≤ 8) (h : w ∈ WL n m) : 0 < w ∧ w < 256 ∧ w < 2 ^ n := by
  have h2 := p2_9 hn
  obtain ⟨a, b, -⟩ := (mem_WL hn).mp h
  exact ⟨a, by omega, b⟩
theorem lvW_le (s : Nat) {j k : Nat} (h : j ≤ k) : ∃ l, lvW s k = lvW s j ++ l := by
  induction k with
  | zero => exact ⟨[], by rw [Nat.le_zero.mp h, List.append_nil]⟩
  | succ k ih =>
    by_cases e : j = k + 1
    · exact ⟨[], by rw [e, List.append_nil]⟩
    · obtain ⟨l, hl⟩ := ih (by omega)
      exact ⟨l ++ (if pc (k + 1) = s then [k + 1] else []), by show lvW s k ++ _ = _; rw [hl, List.append_assoc]⟩
theorem WLm_le (A : Nat) {j k : Nat} (h : j ≤ k) : ∃ l, WLm A k = WLm A j ++ l := by
  induction k with
  | zero => exact ⟨[], by rw [Nat.le_zero.mp h, List.append_nil]⟩
  | succ k ih =>
    by_cases e : j = k + 1
    · exact ⟨[], by rw [e, List.append_nil]⟩
    · obtain ⟨l, hl⟩ := ih (by omega)
      exact ⟨l ++ lvW (k + 1) A, by show WLm A k ++ _ = _; rw [hl, List.append_assoc]⟩
/-- the list as it grows: the levels ahead, and of the level s what stands below w -/
def pfW (A s w : Nat) : List Nat := WLm A (s - 1) ++ lvW s (w - 1)
theorem pfW_room {n m s w : Nat} (hn : n ≤ 8) (hm : m ≤ 3) (hs : 0 < s) (hsm : s ≤ m) (hw : 0 < w) (hwA : w ≤ 2 ^ n - 1) (hp : pc w = s) : (pfW (2 ^ n - 1) s w).length < 92 := by
  have h := WL_len n (by omega) m (by omega)
  obtain ⟨l1, e1⟩ := WLm_le (2 ^ n - 1) hsm
  obtain ⟨l2, e2⟩ := lvW_le s hwA
  have e3 : WLm (2 ^ n - 1) s = WLm (2 ^ n - 1) (s - 1) ++ lvW s (2 ^ n - 1) := by
    obtain ⟨s', rfl⟩ : ∃ s', s = s' + 1 := ⟨s - 1, by omega⟩
    rfl
  have e4 : lvW s w = lvW s (w - 1) ++ [w] := by
    obtain ⟨w', rfl⟩ : ∃ w', w = w' + 1 := ⟨w - 1, by omega⟩
    show lvW s w' ++ _ = _
    rw [if_pos hp]; rfl
  unfold WL at h
  rw [e1, e3, e2, e4] at h
  unfold pfW
  simp only [List.length_append, List.length_cons, List.length_nil] at h ⊢
  omega
theorem pfW_step {A s w : Nat} (hw : 0 < w) : pfW A s (w + 1) = pfW A s w ++ (if pc w = s then [w] else []) := by
  obtain ⟨w', rfl⟩ : ∃ w', w = w' + 1 := ⟨w - 1, by omega⟩
  unfold pfW
  show WLm A (s - 1) ++ (lvW s w' ++ _) = _
  rw [← List.append_assoc]; rfl
theorem pfW_end {A s : Nat} (hs : 0 < s) : pfW A s (A + 1) = pfW A (s + 1) 1 := by
  obtain ⟨s', rfl⟩ : ∃ s', s = s' + 1 := ⟨s - 1, by omega⟩
  unfold pfW
  show WLm A s' ++ lvW (s' + 1) A = WLm A (s' + 1) ++ []
  rw [List.append_nil]; rfl
theorem pfW_1 {A : Nat} : pfW A 1 1 = [] := rfl
theorem pfW_all {n m : Nat} : pfW (2 ^ n - 1) (m + 1) 1 = WL n m := by
  unfold pfW WL
  show WLm _ m ++ [] = _
  rw [List.append_nil]
/-- a list in an array of ints -/
def LsI (σ : PH) (r : Nat) (l : List Nat) : Prop := ∀ t, t < l.length → gI σ r t = nI (l.getD t 0)
theorem getD_app_l {l k : List Nat} {t : Nat} (h : t < l.length) : (l ++ k).getD t 0 = l.getD t 0 := by
  rw [List.getD_eq_getElem?_getD, List.getElem?_append_left h, ← List.getD_eq_getElem?_getD]
theorem getD_app_r {l k : List Nat} {t : Nat} : (l ++ k).getD (l.length + t) 0 = k.getD t 0 := by
  rw [List.getD_eq_getElem?_getD, List.getElem?_append_right (Nat.le_add_right _ _), Nat.add_sub_cancel_left, ← List.getD_eq_getElem?_getD]
theorem getD_snoc {l : List Nat} {x : Nat} : (l ++ [x]).getD l.length 0 = x := by simp [List.getD]
theorem getD_mem {l : List Nat} {t : Nat} (h : t < l.length) : l.getD t 0 ∈ l := by
  simp [List.getD, h]
theorem LsI.push {σ : PH} {r : Nat} {l : List Nat} {x : Nat} {σ' : PH} (h : LsI σ r l) (h2 : gI σ' r l.length = nI x) (h3 : ∀ t, t < l.length → gI σ' r t = gI σ r t) : LsI σ' r (l ++ [x]) := by
  intro t ht
  rw [List.length_append, List.length_singleton] at ht
  rcases Nat.lt_or_eq_of_le (Nat.le_of_lt_succ ht) with hlt | rfl
  · rw [h3 t hlt, h t hlt, getD_app_l hlt]
  · rw [h2, getD_snoc]
theorem LsI.of {σ σ' : PH} {r : Nat} {l : List Nat} (h : LsI σ r l) (e : ∀ t, t < l.length → gI σ' r t = gI σ r t) : LsI σ' r l := fun t ht => by rw [e t ht, h t ht]
/-! the reference's scratch: what its questions may change -/
def SM : Nat → Nat → Prop := fun r k => (r = 81 ∧ (k = 34 ∨ k = 37 ∨ k = 38 ∨ k = 39 ∨ k = 41)) ∨ (100 ≤ r ∧ r ≤ 104)
theorem MC.fr {c : CV} {σ σ' : PH} {W : Nat → Nat → Prop} (h : MC c σ) (f : Fr W σ σ') (hW : ∀ r k, W r k → ¬ ((r = 81 ∧ k = 0) ∨ r = 83 ∨ r = 84 ∨ r = 85 ∨ r = 86)) : MC c σ' := by
  refine ⟨?_, fun i hi => ?_⟩
  · rw [f.I (fun z => hW _ _ z (Or.inl ⟨rfl, rfl⟩))]; exact h.1
  · obtain ⟨a, b, d, e⟩ := h.2 i hi
    rw [f.I (fun z => hW _ _ z (by omega)), f.I (fun z => hW _ _ z (by omega)), f.I (fun z => hW _ _ z (by omega)), f.I (fun z => hW _ _ z (by omega))]
    exact ⟨a, b, d, e⟩
theorem SM_MC (r k : Nat) (h : SM r k) : ¬ ((r = 81 ∧ k = 0) ∨ r = 83 ∨ r = 84 ∨ r = 85 ∨ r = 86) := by
  unfold SM at h; omega
section L9
variable {c : CV} {σ : PH}
/-- the scratch that lists() changes -/
def SL : Nat → Nat → Prop := fun r k => (r = 81 ∧ k = 34) ∨ r = 100
theorem f9_lists (ok : CVok c) (hM : MC c σ) {m : Nat} (hm : gI σ 81 1 = nI m) (hm3 : m ≤ 3) : Rt (f_X9_lists σ) (fun u => u.1 = nI (WL (cN c) m).length ∧ gI u.2 81 34 = nI (WL (cN c) m).length ∧ LsI u.2 100 (WL (cN c) m) ∧ Fr SL σ u.2) := by
  have h8 := ok.1
  have h2 := p2_9 h8
  have h1 := p2_1 (cN c)
  generalize hA : 2 ^ cN c - 1 = A at *
  have hA2 : A < 256 := by omega
  unfold f_X9_lists
  dsimp only [bnd]
  -- the state of the loops: how far the list stands
  have inner : ∀ (s : Nat), 0 < s → s ≤ m → ∀ (k3 : (Int32 × PH) → Option (Int32 × PH)) (P : Int32 × PH → Prop) (q2 : PH), (∀ σ1 : PH, gI σ1 81 34 = nI (pfW A (s + 1) 1).length → LsI σ1 100 (pfW A (s + 1) 1) → Fr SL σ σ1 → Rt (k3 (nI (s + 1), σ1)) P) →
      ∀ (fuel : Nat) (σ1 : PH) (w : Nat), w ≤ A + 1 → A + 1 - w < fuel → (0 < w ∧ gI σ1 81 34 = nI (pfW A s w).length ∧ LsI σ1 100 (pfW A s w) ∧ Fr SL σ σ1) → Rt (loopN (b_X9_lists_17 (nI s, q2) k3) fuel (nI w, σ1)) P := by
    intro s hs hsm k3 P q2 hk fuel σ1 w
    refine lp_acc (enc := fun (a : PH) (i : Nat) => ((nI i, a) : Int32 × PH)) (A + 1) (fun a i => 0 < i ∧ gI a 81 34 = nI (pfW A s i).length ∧ LsI a 100 (pfW A s i) ∧ Fr SL σ a) P ?_ ?_ fuel σ1 w
    · intro rec a i hi hJ hrec
      obtain ⟨hi0, hc, hL, hF⟩ := hJ
      dsimp only [b_X9_lists_17, bnd]
      have hMa : MC c a := hM.fr hF (fun r k h => by unfold SL at h; omega)
      rw [f9_everybody ok hMa, hA]
      refine Rt.f (by rw [nI_ltI (by omega) (by omega)]; omega) ?_
      rw [f9_count (by omega), obd_s]
      by_cases hp : pc i = s
      · have hroom : (pfW A s i).length < 92 := by rw [← hA]; exact pfW_room h8 hm3 hs hsm hi0 (by omega) hp
        refine Rt.t (by rw [hp]) ?_
        rw [hc, nI_clamp (by omega)]
        refine Rt.c (inb_nI hroom (by decide)) ?_
        rw [gI_put_ne (Or.inl (by decide)), hc, nI_1, nI_1]
        refine hrec _ ⟨by omega, ?_, ?_, ?_⟩
        · rw [gI_put_eq, pfW_step hi0, if_pos hp, List.length_append]; rfl
        · rw [pfW_step hi0, if_pos hp]
          refine hL.push ?_ (fun t ht => ?_)
          · rw [gI_put_ne (Or.inl (by decide)), gI_put_eq]
          · rw [gI_put_ne (Or.inl (by decide)), gI_put_ne (Or.inr (by omega))]
        · exact (hF.tr (Fr.pI (Or.inr rfl))).tr (Fr.pI (Or.inl ⟨rfl, rfl⟩))
      · refine Rt.f (by rw [nI_eq (by have := pc_le i; omega) (by omega)]; exact hp) ?_
        rw [nI_1]
        refine hrec _ ⟨by omega, ?_, ?_, hF⟩
        · rw [pfW_step hi0, if_neg hp, List.append_nil]; exact hc
        · rw [pfW_step hi0, if_neg hp, List.append_nil]; exact hL
    · intro rec a hJ
      obtain ⟨hi0, hc, hL, hF⟩ := hJ
      dsimp only [b_X9_lists_17, bnd]
      have hMa : MC c a := hM.fr hF (fun r k h => by unfold SL at h; omega)
      rw [f9_everybody ok hMa, hA]
      refine Rt.t (nI_lt (by omega) (by omega)) ?_
      rw [nI_1]
      rw [pfW_end hs] at hc hL
      exact hk a hc hL hF
  refine lp_acc (enc := fun (a : PH) (i : Nat) => ((nI i, a) : Int32 × PH)) (m + 1) (fun a i => 0 < i ∧ gI a 81 34 = nI (pfW A i 1).length ∧ LsI a 100 (pfW A i 1) ∧ Fr SL σ a) _ ?_ ?_ FU _ 1 (by omega) (FU_big (by omega)) ⟨by decide, ?_, ?_, ?_⟩
  · intro rec a i hi hJ hrec
    obtain ⟨hi0, hc, hL, hF⟩ := hJ
    dsimp only [b_X9_lists_7, bnd]
    rw [hF.I (r := 81) (k := 1) (by unfold SL; omega), hm]
    refine Rt.f (by rw [nI_ltI (by omega) (by omega)]; omega) ?_
    exact inner i hi0 (by omega) rec _ a (fun σ1 h1 h2 h3 => hrec σ1 ⟨by omega, h1, h2, h3⟩) FU a 1 (by omega) (FU_big (by omega)) ⟨by decide, hc, hL, hF⟩
  · intro rec a hJ
    obtain ⟨hi0, hc, hL, hF⟩ := hJ
    dsimp only [b_X9_lists_7, bnd]
    rw [hF.I (r := 81) (k := 1) (by unfold SL; omega), hm]
    refine Rt.t (nI_lt (by omega) (by omega)) (Rt.s ?_)
    have e : pfW A (m + 1) 1 = WL (cN c) m := by rw [← hA]; exact pfW_all
    rw [e] at hc hL
    exact ⟨hc, hc, hL, hF⟩
  · rw [gI_put_eq]; rfl
  · intro t ht; exact absurd ht (Nat.not_lt_zero t)
  · exact Fr.pI (Or.inl ⟨rfl, rfl⟩)
end L9
/-! hearings; who is possible -/
abbrev HS : Type := List (Nat × Nat)
def hsD (hs : HS) (k : Nat) : Nat × Nat := hs.getD k (0, 0)
def HSok (n : Nat) (hs : HS) : Prop := hs.length ≤ 16 ∧ ∀ q ∈ hs, 0 < q.1 ∧ q.1 < 2 ^ n ∧ q.2 < 2
def MH (hs : HS) (σ : PH) : Prop := gI σ 81 5 = nI hs.length ∧ ∀ k, k < hs.length → gI σ 87 k = nI (hsD hs k).1 ∧ gI σ 88 k = nI (hsD hs k).2
def soC (c : CV) (s y w : Nat) : Bool := decide ((sndC c s w).toNat = y)
def okH (c : CV) (hs : HS) (w : Nat) : Bool := hs.all fun q => soC c q.1 q.2 w
def psC (c : CV) (m : Nat) (hs : HS) : List Nat := (WL (cN c) m).filter (okH c hs)
theorem hsD_mem {hs : HS} {k : Nat} (h : k < hs.length) : hsD hs k ∈ hs := by simp [hsD, List.getD, h]
theorem take_snoc {l : List Nat} {i : Nat} (h : i < l.length) : l.take (i + 1) = l.take i ++ [l.getD i 0] := by
  rw [List.take_succ, List.getElem?_eq_getElem h]; simp [List.getD, h]
theorem takeH_snoc {l : HS} {i : Nat} (h : i < l.length) : l.take (i + 1) = l.take i ++ [hsD l i] := by
  rw [List.take_succ, List.getElem?_eq_getElem h]; simp [hsD, List.getD, h]
theorem oI_eq {b : Bool} {y : Nat} (hy : y < 2) : oI b = nI y ↔ b.toNat = y := by
  rw [oI_nI]; exact nI_eq (by have := oI_lt2 b; omega) (by omega)
theorem psC_len {c : CV} (ok : CVok c) {m : Nat} (hm : m ≤ 3) (hs : HS) : (psC c m hs).length ≤ 92 :=
  Nat.le_trans (List.length_filter_le _ _) (WL_len _ (by have := ok.1; omega) m (by omega))
theorem psC_lt {c : CV} (ok : CVok c) {m : Nat} {hs : HS} {w : Nat} (h : w ∈ psC c m hs) : 0 < w ∧ w < 256 ∧ w < 2 ^ cN c := WL_lt ok.1 ((List.mem_filter.mp h).1)
/-- the scratch that possible() changes -/
def SP : Nat → Nat → Prop := fun r k => (r = 81 ∧ k = 34) ∨ r = 100 ∨ r = 101
theorem SP_SM (r k : Nat) (h : SP r k) : SM r k := by unfold SP at h; unfold SM; omega
section P9
variable {c : CV} {σ : PH}
theorem f9_stays (ok : CVok c) (hM : MC c σ) {l : List Nat} {s y : Nat} (hl : l.length ≤ 92) (hw : ∀ w ∈ l, w < 256) (hs : s < 256) (hy : y < 2) (hL : LsI σ 101 l) : Rt (f_X9_stays σ (nI l.length) (nI s) (nI y)) (fun u => u.1 = nI (l.filter (soC c s y)).length ∧ LsI u.2 101 (l.filter (soC c s y)) ∧ Fr (fun r _ => r = 101) σ u.2) := by
  unfold f_X9_stays
  have fl : ∀ i, ((l.take i).filter (soC c s y)).length ≤ i := fun i => Nat.le_trans (List.length_filter_le _ _) (by rw [List.length_take]; omega)
  refine lp_acc (enc := fun (a : Nat × PH) (i : Nat) => ((nI a.1, nI i, a.2) : Int32 × Int32 × PH)) l.length (fun a i => a.1 = ((l.take i).filter (soC c s y)).length ∧ LsI a.2 101 ((l.take i).filter (soC c s y)) ∧ (∀ t, i ≤ t → t < l.length → gI a.2 101 t = nI (l.getD t 0)) ∧ Fr (fun r _ => r = 101) σ a.2) _ ?_ ?_ FU (0, σ) 0 (Nat.zero_le _) (FU_big (by omega)) ⟨rfl, fun t ht => absurd ht (Nat.not_lt_zero t), fun t _ ht => hL t ht, Fr.rf⟩
  · rintro rec ⟨k, a⟩ i hi ⟨hk, hA, hB, hF⟩ hrec
    dsimp only at hk hA hB hF hrec
    dsimp only [b_X9_stays_6, bnd]
    refine Rt.f (by rw [nI_leI (by omega) (by omega)]; omega) ?_
    have hMa : MC c a := hM.fr hF (fun r k h => by omega)
    have hwi : l.getD i 0 < 256 := hw _ (getD_mem hi)
    have hfi := fl i
    rw [nI_clamp (by omega), hB i (Nat.le_refl _) hi, f9_soundOf ok hMa hs hwi, obd_s]
    refine Rt.c (inb_nI (by omega) (by decide)) ?_
    by_cases e : (sndC c s (l.getD i 0)).toNat = y
    · have hp : soC c s y (l.getD i 0) = true := decide_eq_true e
      refine Rt.t ((oI_eq hy).mpr e) ?_
      refine Rt.c (inb_nI (by omega) (by decide)) (Rt.c (inb_nI (by omega) (by decide)) ?_)
      rw [nI_clamp (by omega), nI_1, nI_1]
      have e2 : (l.take (i + 1)).filter (soC c s y) = (l.take i).filter (soC c s y) ++ [l.getD i 0] := by
        rw [take_snoc hi, List.filter_append, List.filter_cons_of_pos hp, List.filter_nil]
      refine hrec (k + 1, putI a 101 k (nI (l.getD i 0))) ⟨?_, ?_, ?_, ?_⟩
      · rw [e2, List.length_append, ← hk]; rfl
      · rw [e2]
        refine hA.push ?_ (fun t ht => ?_)
        · rw [← hk]; exact gI_put_eq
        · exact gI_put_ne (Or.inr (by omega))
      · intro t ht1 ht2
        dsimp only
        rw [gI_put_ne (Or.inr (by omega))]
        exact hB t (by omega) ht2
      · exact hF.tr (Fr.pI rfl)
    · have hp : soC c s y (l.getD i 0) = false := decide_eq_false e
      refine Rt.f (fun z => e ((oI_eq hy).mp z)) ?_
      rw [nI_1]
      have e2 : (l.take (i + 1)).filter (soC c s y) = (l.take i).filter (soC c s y) := by
        rw [take_snoc hi, List.filter_append, List.filter_cons_of_neg (by rw [hp]; decide), List.filter_nil, List.append_nil]
      refine hrec (k, a) ⟨?_, ?_, fun t ht1 ht2 => hB t (by omega) ht2, hF⟩
      · rw [e2]; exact hk
      · rw [e2]; exact hA
  · rintro rec ⟨k, a⟩ ⟨hk, hA, hB, hF⟩
    dsimp only at hk hA hB hF
    dsimp only [b_X9_stays_6, bnd]
    rw [List.take_length] at hk hA
    refine Rt.t (nI_le (Nat.le_refl _) (by omega)) (Rt.s ⟨by rw [hk], hA, hF⟩)
theorem okH_snoc (c : CV) (hs : HS) (q : Nat × Nat) (l : List Nat) : l.filter (okH c (hs ++ [q])) = (l.filter (okH c hs)).filter (soC c q.1 q.2) := by
  rw [List.filter_filter]
  apply List.filter_congr
  intro w _
  unfold okH
  rw [List.all_append, Bool.and_comm]
  simp
theorem f9_possible (ok : CVok c) (hM : MC c σ) {m : Nat} (hm : gI σ 81 1 = nI m) (hm3 : m ≤ 3) {hs : HS} (hH : MH hs σ) (hok : HSok (cN c) hs) : Rt (f_X9_possible σ) (fun u => u.1 = nI (psC c m hs).length ∧ LsI u.2 101 (psC c m hs) ∧ gI u.2 81 34 = nI (WL (cN c) m).length ∧ LsI u.2 100 (WL (cN c) m) ∧ Fr SP σ u.2) := by
  have h8 := ok.1
  have h92 := WL_len (cN c) (by omega) m (by omega)
  unfold f_X9_possible
  refine Rt.o (f9_lists ok hM hm hm3) ?_
  rintro ⟨v, σ1⟩ ⟨hv, h34, hL, hF⟩
  dsimp only at hv h34 hL hF
  subst hv
  have hF0 : Fr SP σ σ1 := hF.mono (fun r k h => by unfold SL at h; unfold SP; omega)
  generalize hW : WL (cN c) m = W at *
  refine lp_acc (enc := fun (a : PH) (i : Nat) => ((nI i, a) : Int32 × PH)) W.length (fun a i => gI a 81 34 = nI W.length ∧ LsI a 100 W ∧ (∀ t, t < i → gI a 101 t = nI (W.getD t 0)) ∧ Fr SP σ a) _ ?_ ?_ FU σ1 0 (Nat.zero_le _) (FU_big (by omega)) ⟨h34, hL, fun t ht => absurd ht (Nat.not_lt_zero t), hF0⟩
  · rintro rec a i hi ⟨j34, jL, jA, jF⟩ hrec
    dsimp only [b_X9_possible_7, bnd]
    refine Rt.f (by rw [nI_leI (by omega) (by omega)]; omega) (Rt.c (inb_nI (by omega) (by decide)) (Rt.c (inb_nI (by omega) (by decide)) ?_))
    rw [nI_clamp (by omega), nI_1]
    refine hrec _ ⟨?_, ?_, ?_, ?_⟩
    · rw [gI_put_ne (Or.inl (by decide))]; exact j34
    · exact jL.of (fun t ht => gI_put_ne (Or.inl (by decide)))
    · intro t ht
      rcases Nat.lt_or_eq_of_le (Nat.le_of_lt_succ ht) with hlt | rfl
      · rw [gI_put_ne (Or.inr (by omega))]; exact jA t hlt
      · rw [gI_put_eq]; exact jL t hi
    · exact jF.tr (Fr.pI (Or.inr (Or.inr rfl)))
  · rintro rec a ⟨j34, jL, jA, jF⟩
    dsimp only [b_X9_possible_7, bnd, j_X9_possible_30]
    refine Rt.t (nI_le (Nat.le_refl _) (by omega)) ?_
    have e0 : W.filter (okH c (hs.take 0)) = W := by
      rw [List.take_zero]
      exact List.filter_eq_self.mpr (fun w _ => rfl)
    refine Rt.e (y := loopN b_X9_possible_32 FU (nI (W.filter (okH c (hs.take 0))).length, nI 0, a)) (by rw [e0]; rfl) ?_
    refine lp_acc (enc := fun (a : PH) (i : Nat) => ((nI (W.filter (okH c (hs.take i))).length, nI i, a) : Int32 × Int32 × PH)) hs.length (fun a i => gI a 81 34 = nI W.length ∧ LsI a 100 W ∧ LsI a 101 (W.filter (okH c (hs.take i))) ∧ Fr SP σ a) _ ?_ ?_ FU a 0 (Nat.zero_le _) (FU_big (by have := hok.1; omega)) ⟨j34, jL, by rw [e0]; exact fun t ht => jA t ht, jF⟩
    · rintro rec a i hi ⟨j34, jL, jA, jF⟩ hrec
      dsimp only [b_X9_possible_32, bnd]
      have hMa : MC c a := hM.fr jF (fun r k h => by unfold SP at h; omega)
      have e5 : gI a 81 5 = nI hs.length := by rw [jF.I (by unfold SP; omega)]; exact hH.1
      have e87 : gI a 87 i = nI (hsD hs i).1 := by rw [jF.I (by unfold SP; omega)]; exact (hH.2 i hi).1
      have e88 : gI a 88 i = nI (hsD hs i).2 := by rw [jF.I (by unfold SP; omega)]; exact (hH.2 i hi).2
      have h16 := hok.1
      obtain ⟨q0, q1, q2⟩ := hok.2 _ (hsD_mem hi)
      have h2 := p2_9 h8
      rw [e5, nI_clamp (by omega), e87, e88]
      refine Rt.f (by rw [nI_leI (by omega) (by omega)]; omega) (Rt.c (inb_nI (by omega) (by decide)) (Rt.c (inb_nI (by omega) (by decide)) ?_))
      have hlen : (W.filter (okH c (hs.take i))).length ≤ 92 := Nat.le_trans (List.length_filter_le _ _) h92
      refine Rt.o (f9_stays ok hMa hlen (fun w hw => by rw [← hW] at hw; exact (WL_lt h8 ((List.mem_filter.mp hw).1)).2.1) (by omega) q2 jA) ?_
      rintro ⟨v, σ2⟩ ⟨hv, hA, hF2⟩
      dsimp only at hv hA hF2
      dsimp only
      rw [← okH_snoc, ← takeH_snoc hi] at hv hA
      rw [hv, nI_1]
      refine hrec σ2 ⟨?_, ?_, hA, jF.tr (hF2.mono (fun r k h => Or.inr (Or.inr h)))⟩
      · rw [hF2.I (by omega)]; exact j34
      · exact jL.of (fun t ht => hF2.I (by omega))
    · rintro rec a ⟨j34, jL, jA, jF⟩
      dsimp only [b_X9_possible_32, bnd]
      have e5 : gI a 81 5 = nI hs.length := by rw [jF.I (by unfold SP; omega)]; exact hH.1
      have h16 := hok.1
      rw [e5]
      rw [List.take_length] at jA
      refine Rt.t (nI_le (Nat.le_refl _) (by omega)) (Rt.s ?_)
      dsimp only
      rw [List.take_length]
      unfold psC
      rw [hW]
      exact ⟨rfl, jA, j34, jL, jF⟩
/-- the weight of a world -/
def wtC (c : CV) (w : Nat) : Nat := it (fun x a => if w.testBit x then a * cO c x else a) 1 (cN c)
theorem f9_weight (ok : CVok c) (hM : MC c σ) {w : Nat} (hw : w < 256) : f_X9_weight σ (nI w) = some (nI (wtC c w)) := by
  have h8 := ok.1
  unfold f_X9_weight
  apply Rt.q
  refine lp_acc (enc := fun (a : Nat) (i : Nat) => ((nI a, nI i) : Int32 × Int32)) (cN c) (fun a i => a = it (fun x a => if w.testBit x then a * cO c x else a) 1 i) _ ?_ ?_ FU 1 0 (Nat.zero_le _) (FU_big (by omega)) rfl
  · intro rec a i hi hJ hrec
    dsimp only [b_X9_weight_4, bnd]
    rw [hM.1, f9_isIn (by omega) (by omega), nI_clamp (by omega), (hM.2 i hi).2.2.1, pk_mul, nI_1]
    refine Rt.f (by rw [nI_leI (by omega) (by omega)]; omega) ?_
    cases hb : w.testBit i with
    | false => exact Rt.t rfl (hrec a (by rw [it_s, ← hJ, hb]; rfl))
    | true => exact Rt.f (by decide) (Rt.c (inb_nI (by omega) (by decide)) (hrec _ (by rw [it_s, ← hJ, hb]; rfl)))
  · intro rec a hJ
    dsimp only [b_X9_weight_4, bnd]
    rw [hM.1]
    exact Rt.t (nI_le (Nat.le_refl _) (by omega)) (Rt.s (by rw [hJ]; rfl))
end P9
theorem wtC_le {c : CV} (ok : CVok c) (w : Nat) : 1 ≤ wtC c w ∧ wtC c w ≤ 9 ^ pc w := by
  have key : ∀ i, i ≤ cN c → 1 ≤ it (fun x a => if w.testBit x then a * cO c x else a) 1 i ∧ it (fun x a => if w.testBit x then a * cO c x else a) 1 i ≤ 9 ^ ((List.range i).countP w.testBit) := by
    intro i
    induction i with
    | zero => intro _; exact ⟨Nat.le_refl _, Nat.le_refl _⟩
    | succ i ih =>
      intro hi
      obtain ⟨h1, h2⟩ := ih (by omega)
      obtain ⟨-, -, o1, o2, -⟩ := ok.2.1 i (by omega)
      rw [it_s, List.range_succ, List.countP_append, List.countP_singleton]
      cases hb : w.testBit i with
      | false => exact ⟨h1, h2⟩
      | true =>
        rw [if_pos rfl, if_pos rfl, Nat.pow_succ]
        exact ⟨Nat.mul_pos h1 o1, Nat.mul_le_mul h2 o2⟩
  obtain ⟨h1, h2⟩ := key (cN c) (Nat.le_refl _)
  refine ⟨h1, Nat.le_trans h2 (Nat.pow_le_pow_right (by decide) ?_)⟩
  have h8 := ok.1
  unfold pc
  have e : 8 = cN c + (8 - cN c) := by omega
  rw [e, cnt_split]
  omega
theorem wtC_729 {c : CV} (ok : CVok c) {m w : Nat} (hm : m ≤ 3) (hw : w ∈ WL (cN c) m) : 1 ≤ wtC c w ∧ wtC c w ≤ 729 := by
  obtain ⟨h1, h2⟩ := wtC_le ok w
  obtain ⟨-, -, h3⟩ := (mem_WL ok.1).mp hw
  exact ⟨h1, Nat.le_trans h2 (Nat.le_trans (Nat.pow_le_pow_right (by decide) (Nat.le_trans h3 hm)) (by decide))⟩
