/-! going by the set to hear next, to the end -/
def cm3 (a b : Nat × Nat × Nat) : Nat × Nat × Nat := (mx2 a.1 b.1, mx2 a.2.1 b.2.1, a.2.2 + b.2.2)
theorem mx2_c (a b : Nat) : mx2 a b = mx2 b a := by unfold mx2; split <;> split <;> omega
theorem mx2_a (a b d : Nat) : mx2 (mx2 a b) d = mx2 a (mx2 b d) := by unfold mx2; (repeat' split) <;> omega
theorem mx2_le {a b d : Nat} (h1 : a ≤ d) (h2 : b ≤ d) : mx2 a b ≤ d := by unfold mx2; split <;> omega
theorem mx2_l (a b : Nat) : a ≤ mx2 a b := by unfold mx2; split <;> omega
theorem mx2_r (a b : Nat) : b ≤ mx2 a b := by unfold mx2; split <;> omega
theorem cm3_a (a b d : Nat × Nat × Nat) : cm3 (cm3 a b) d = cm3 a (cm3 b d) := by
  unfold cm3; dsimp only; rw [mx2_a, mx2_a, Nat.add_assoc]
theorem cm3_c (a b : Nat × Nat × Nat) : cm3 a b = cm3 b a := by
  unfold cm3; rw [mx2_c a.1, mx2_c a.2.1, Nat.add_comm a.2.2]
def gB (c : CV) (le ne : Nat) : Nat → List Nat → Nat → Nat × Nat × Nat
  | 0, l, dp => (dp, l.length, dp * sumW c l)
  | n + 1, l, dp => if nxC c le ne l = 0 then (dp, l.length, dp * sumW c l) else cm3 (gB c le ne n (l.filter (soC c (nxC c le ne l) 0)) (dp + 1)) (gB c le ne n (l.filter (soC c (nxC c le ne l) 1)) (dp + 1))
def gV (c : CV) (le ne : Nat) (l : List Nat) (dp : Nat) : Nat × Nat × Nat := gB c le ne l.length l dp
theorem so_split (c : CV) (s : Nat) (l : List Nat) : (l.filter (soC c s 0)).length + (l.filter (soC c s 1)).length = l.length ∧ (l.filter (soC c s 1)).length = l.countP (sndC c s) ∧ sumW c (l.filter (soC c s 0)) + sumW c (l.filter (soC c s 1)) = sumW c l := by
  induction l with
  | nil => exact ⟨rfl, rfl, rfl⟩
  | cons w l ih =>
    obtain ⟨h1, h2, h3⟩ := ih
    unfold sumW at *
    rw [List.countP_cons, List.length_cons, List.foldl_cons, foldl_add (wtC c) l]
    cases e : sndC c s w with
    | false =>
      have a0 : soC c s 0 w = true := by unfold soC; rw [e]; rfl
      have a1 : soC c s 1 w = false := by unfold soC; rw [e]; rfl
      rw [List.filter_cons_of_pos a0, List.filter_cons_of_neg (by rw [a1]; decide), List.length_cons, List.foldl_cons, foldl_add (wtC c) (l.filter (soC c s 0))]
      refine ⟨by omega, by simp; omega, by omega⟩
    | true =>
      have a0 : soC c s 0 w = false := by unfold soC; rw [e]; rfl
      have a1 : soC c s 1 w = true := by unfold soC; rw [e]; rfl
      rw [List.filter_cons_of_pos a1, List.filter_cons_of_neg (by rw [a0]; decide), List.length_cons, List.foldl_cons, foldl_add (wtC c) (l.filter (soC c s 1))]
      refine ⟨by omega, by simp; omega, by omega⟩
theorem nx_split {c : CV} {le ne : Nat} {l : List Nat} (h : nxC c le ne l ≠ 0) : 0 < (l.filter (soC c (nxC c le ne l) 0)).length ∧ 0 < (l.filter (soC c (nxC c le ne l) 1)).length ∧ (l.filter (soC c (nxC c le ne l) 0)).length + (l.filter (soC c (nxC c le ne l) 1)).length = l.length := by
  obtain ⟨-, h1, h2⟩ := nxC_ok h
  obtain ⟨s1, s2, -⟩ := so_split c (nxC c le ne l) l
  omega
theorem gB_lf {c : CV} {le ne : Nat} {l : List Nat} (h : nxC c le ne l = 0) (n dp : Nat) : gB c le ne n l dp = (dp, l.length, dp * sumW c l) := by
  cases n with
  | zero => rfl
  | succ n => unfold gB; rw [if_pos h]
theorem gB_n (c : CV) (le ne : Nat) : ∀ (n m : Nat) (l : List Nat) (dp : Nat), l.length ≤ n → l.length ≤ m → gB c le ne n l dp = gB c le ne m l dp := by
  intro n
  induction n with
  | zero =>
    intro m l dp h h2
    have e : nxC c le ne l = 0 := nxC_small (by omega)
    rw [gB_lf e, gB_lf e]
  | succ n ih =>
    intro m l dp h h2
    by_cases e : nxC c le ne l = 0
    · rw [gB_lf e, gB_lf e]
    · obtain ⟨a, b, d⟩ := nx_split e
      cases m with
      | zero => omega
      | succ m =>
        show (if nxC c le ne l = 0 then _ else _) = (if nxC c le ne l = 0 then _ else _)
        rw [if_neg e, if_neg e, ih m _ _ (by omega) (by omega), ih m _ _ (by omega) (by omega)]
theorem gV_lf {c : CV} {le ne : Nat} {l : List Nat} (h : nxC c le ne l = 0) (dp : Nat) : gV c le ne l dp = (dp, l.length, dp * sumW c l) := gB_lf h _ _
theorem gV_nd {c : CV} {le ne : Nat} {l : List Nat} (h : nxC c le ne l ≠ 0) (dp : Nat) : gV c le ne l dp = cm3 (gV c le ne (l.filter (soC c (nxC c le ne l) 0)) (dp + 1)) (gV c le ne (l.filter (soC c (nxC c le ne l) 1)) (dp + 1)) := by
  obtain ⟨a, b, d⟩ := nx_split h
  unfold gV
  rw [gB_n c le ne l.length (l.length + 1) l dp (Nat.le_refl _) (by omega)]
  show (if nxC c le ne l = 0 then _ else _) = _
  rw [if_neg h, gB_n c le ne l.length _ _ _ (by omega) (Nat.le_refl _), gB_n c le ne l.length _ _ _ (by omega) (Nat.le_refl _)]
theorem gV_le (c : CV) (le ne D : Nat) : ∀ (n : Nat) (l : List Nat) (dp : Nat), l.length ≤ n → 0 < l.length → dp + l.length ≤ D + 1 → (gV c le ne l dp).1 ≤ D ∧ (gV c le ne l dp).2.1 ≤ D + 1 ∧ (gV c le ne l dp).2.2 ≤ D * sumW c l := by
  intro n
  induction n with
  | zero => intro l dp h h0; omega
  | succ n ih =>
    intro l dp h h0 h1
    by_cases e : nxC c le ne l = 0
    · rw [gV_lf e]
      exact ⟨by dsimp only; omega, by dsimp only; omega, Nat.mul_le_mul_right _ (by omega)⟩
    · rw [gV_nd e]
      obtain ⟨a, b, d⟩ := nx_split e
      obtain ⟨x1, x2, x3⟩ := ih _ (dp + 1) (by omega) a (by omega)
      obtain ⟨y1, y2, y3⟩ := ih _ (dp + 1) (by omega) b (by omega)
      obtain ⟨-, -, s3⟩ := so_split c (nxC c le ne l) l
      refine ⟨mx2_le x1 y1, mx2_le x2 y2, ?_⟩
      rw [← s3, Nat.mul_add]
      exact Nat.add_le_add x3 y3
/-- what three cells hold, after -/
def G3 (σ : PH) (r x y z : Nat) (v : Nat × Nat × Nat) : Prop := gI σ r x = nI v.1 ∧ gI σ r y = nI v.2.1 ∧ gJ σ r z = lN v.2.2
theorem G3.fr {σ σ' : PH} {r x y z : Nat} {v : Nat × Nat × Nat} {W : Nat → Nat → Prop} (h : G3 σ r x y z v) (f : Fr W σ σ') (hx : ¬ W r x) (hy : ¬ W r y) (hz : ¬ W r z) : G3 σ' r x y z v := ⟨by rw [f.I hx]; exact h.1, by rw [f.I hy]; exact h.2.1, by rw [f.J hz]; exact h.2.2⟩
def GW (f : Nat) : Nat → Nat → Prop := fun r k => (r = 81 ∧ 37 ≤ k ∧ k ≤ 39) ∨ (r = 103 ∧ f ≤ k)
section V1
variable {c : CV} {σ : PH}
theorem bsL_filter (B ix : List Nat) (p : Nat → Bool) : bsL B (ix.filter fun i => p (B.getD i 0)) = (bsL B ix).filter p := by
  unfold bsL
  rw [List.filter_map]; rfl
/-- the places that go one way, laid behind -/
theorem f9_lay (ok : CVok c) {le ne f s y : Nat} {B ix : List Nat} (hT : TBl c le ne B σ) (hB : B.length ≤ 92) (hI : IX B f ix σ) (hf : f + 92 * ix.length ≤ 9200) (hl : ix.length ≤ 92) (hlaw : lwC c le ne s = true) (hy : y < 2) {α : Type} (P : α → Prop) (body : (Int32 × Int32 × PH → Option α) → Int32 × Int32 × PH → Option α) (fin : ∀ (σ1 : PH), IX B (f + ix.length) (ix.filter fun i => soC c s y (B.getD i 0)) σ1 → Fr (fun r k => r = 103 ∧ f + ix.length ≤ k) σ σ1 → ∀ rec, Rt (body rec (nI (ix.filter fun i => soC c s y (B.getD i 0)).length, nI ix.length, σ1)) P) (hb : ∀ rec (a b : Int32) (σ1 : PH) (t : Nat), b = nI t → t < ix.length → inb (nI f + b) 9200 = true → (nI f + b).toNatClampNeg = f + t → inb (92 * nI s + gI σ1 103 (f + t)) 23552 = true → ((gI σ1 102 (92 * nI s + gI σ1 103 (f + t)).toNatClampNeg = nI y) → inb (nI f + nI ix.length + a) 9200 = true → Rt (rec (a + 1, b + 1, putI σ1 103 (nI f + nI ix.length + a).toNatClampNeg (gI σ1 103 (f + t)))) P) → (¬ (gI σ1 102 (92 * nI s + gI σ1 103 (f + t)).toNatClampNeg = nI y) → Rt (rec (a, b + 1, σ1)) P) → (∃ k, a = nI k ∧ k ≤ t) → Rt (body rec (a, b, σ1)) P) : Rt (loopN body FU (0, 0, σ)) P := by
  obtain ⟨s0, s1⟩ := lwC_set hlaw
  have h9 := p2_9 ok.1
  have fl : ∀ t, ((ix.take t).filter fun i => soC c s y (B.getD i 0)).length ≤ t := fun t => Nat.le_trans (List.length_filter_le _ _) (by rw [List.length_take]; omega)
  refine lp_acc (enc := fun (a : Nat × PH) (t : Nat) => ((nI a.1, nI t, a.2) : Int32 × Int32 × PH)) ix.length (fun a t => a.1 = ((ix.take t).filter fun i => soC c s y (B.getD i 0)).length ∧ IX B (f + ix.length) ((ix.take t).filter fun i => soC c s y (B.getD i 0)) a.2 ∧ Fr (fun r k => r = 103 ∧ f + ix.length ≤ k) σ a.2) _ ?_ ?_ FU (0, σ) 0 (Nat.zero_le _) (FU_big (by omega)) ⟨rfl, fun t h => absurd h (Nat.not_lt_zero t), Fr.rf⟩
  · rintro rec ⟨k, a⟩ t ht ⟨hk, hX, hF⟩ hrec
    dsimp only at hk hX hF hrec ⊢
    have hft := fl t
    obtain ⟨q1, q2⟩ := hI t ht
    have q1' : gI a 103 (f + t) = nI (ix.getD t 0) := by rw [hF.I (by omega)]; exact q1
    have g1 : gI a 102 (92 * s + ix.getD t 0) = oI (sndC c s (B.getD (ix.getD t 0) 0)) := by
      rw [hF.I (by omega), hT s s0 s1 _ q2, hlaw, if_pos rfl]
    have e2 : ∀ b, soC c s y (B.getD (ix.getD t 0) 0) = b → (ix.take (t + 1)).filter (fun i => soC c s y (B.getD i 0)) = (ix.take t).filter (fun i => soC c s y (B.getD i 0)) ++ (if b then [ix.getD t 0] else []) := fun b hb => by
      rw [take_snoc ht, List.filter_append]
      cases b with
      | true => rw [List.filter_cons_of_pos (p := fun i => soC c s y (B.getD i 0)) hb]; rfl
      | false => rw [List.filter_cons_of_neg (p := fun i => soC c s y (B.getD i 0)) (by rw [hb]; decide)]; rfl
    refine hb rec (nI k) (nI t) a t rfl ht (by rw [nI_add]; exact inb_nI (by omega) (by decide)) (by rw [nI_add, nI_clamp (by omega)]) (by rw [q1', i_92, pk_mul, nI_add]; exact inb_nI (by omega) (by decide)) ?_ ?_ ⟨k, rfl, by omega⟩
    · intro h1 h2
      rw [q1', i_92, pk_mul, nI_add, nI_clamp (by omega), g1] at h1
      have hp : soC c s y (B.getD (ix.getD t 0) 0) = true := decide_eq_true ((oI_eq hy).mp h1)
      rw [nI_add, nI_add, nI_clamp (by omega), nI_1, nI_1, q1']
      refine hrec (k + 1, putI a 103 (f + ix.length + k) (nI (ix.getD t 0))) ⟨?_, ?_, hF.tr (Fr.pI (by omega))⟩
      · rw [e2 _ hp, if_pos rfl, List.length_append, ← hk]; rfl
      · rw [e2 _ hp, if_pos rfl]
        intro t' ht'
        rw [List.length_append, List.length_singleton, ← hk] at ht'
        dsimp only
        by_cases e : t' = k
        · subst e
          rw [gI_put_eq]
          have : ((ix.take t).filter (fun i => soC c s y (B.getD i 0)) ++ [ix.getD t 0]).getD t' 0 = ix.getD t 0 := by
            rw [List.getD_eq_getElem?_getD, List.getElem?_append_right (by omega), hk]; simp
          rw [this]
          exact ⟨rfl, q2⟩
        · rw [gI_put_ne (Or.inr (by omega))]
          have : ((ix.take t).filter (fun i => soC c s y (B.getD i 0)) ++ [ix.getD t 0]).getD t' 0 = ((ix.take t).filter (fun i => soC c s y (B.getD i 0))).getD t' 0 := by
            rw [List.getD_eq_getElem?_getD, List.getElem?_append_left (by omega), ← List.getD_eq_getElem?_getD]
          rw [this]
          exact hX t' (by omega)
    · intro h1
      rw [q1', i_92, pk_mul, nI_add, nI_clamp (by omega), g1] at h1
      have hp : soC c s y (B.getD (ix.getD t 0) 0) = false := decide_eq_false (fun z => h1 ((oI_eq hy).mpr z))
      rw [nI_1]
      refine hrec (k, a) ⟨?_, ?_, hF⟩
      · rw [e2 _ hp]; simpa using hk
      · rw [e2 _ hp]; simpa using hX
  · rintro rec ⟨k, a⟩ ⟨hk, hX, hF⟩
    rw [List.take_length] at hk hX
    dsimp only at hk hX hF ⊢
    rw [hk]
    exact fin a hX hF rec
theorem wtC_big (ok : CVok c) (w : Nat) : wtC c w < 2 ^ 31 := Nat.lt_of_le_of_lt (Nat.le_trans (wtC_le ok w).2 (Nat.pow_le_pow_right (n := 9) (by decide) (pc_le w))) (by decide)
theorem sumW_snoc {c : CV} {l : List Nat} {i : Nat} (h : i < l.length) : sumW c (l.take (i + 1)) = sumW c (l.take i) + wtC c (l.getD i 0) := by
  rw [take_snoc h]; unfold sumW; rw [List.foldl_append]; rfl
theorem f9_goesBy (ok : CVok c) {le ne : Nat} {B : List Nat} (hB : B.length ≤ 92) (hw : ∀ w ∈ B, w < 256) : ∀ (n : Nat) (ix : List Nat) (σ : PH) (f dp : Nat) (a : Nat × Nat × Nat), MC c σ → TBl c le ne B σ → LsI σ 101 B → IX B f ix σ → ix.length ≤ n → 0 < ix.length → f + 92 * ix.length ≤ 9200 → ix.length ≤ 92 → dp + ix.length ≤ 93 → G3 σ 81 37 38 39 a → a.1 ≤ 92 → a.2.1 ≤ 93 → Rt (f_X9_goesBy n σ (nI f) (nI ix.length) (nI dp)) (fun u => G3 u 81 37 38 39 (cm3 a (gV c le ne (bsL B ix) dp)) ∧ Fr (GW (f + ix.length)) σ u) := by
  intro n
  induction n with
  | zero => intro ix σ f dp a _ _ _ _ h1 h2; omega
  | succ n ih =>
    intro ix σ f dp a hM hT hL hI hn h0 hf hl hdp hG ha1 ha2
    have el := bsL_len B ix
    obtain ⟨g37, g38, g39⟩ := hG
    show Rt (g_X9_goesBy (f_X9_goesBy n) σ (nI f) (nI ix.length) (nI dp)) _
    have leaf : nxC c le ne (bsL B ix) = 0 → Rt (j_X9_goesBy_15 σ (nI f) (nI ix.length) (nI dp) (f_X9_goesBy n) (-1)) (fun u => G3 u 81 37 38 39 (cm3 a (gV c le ne (bsL B ix) dp)) ∧ Fr (GW (f + ix.length)) σ u) := by
      intro e
      rw [gV_lf e]
      have l60 : ∀ (σ23 : PH), gI σ23 81 37 = nI (mx2 a.1 dp) → gJ σ23 81 39 = lN a.2.2 → Fr (GW (f + ix.length)) σ σ23 → Rt (j_X9_goesBy_60 (nI f) (nI ix.length) (nI dp) σ23 (nI (mx2 a.2.1 ix.length))) (fun u => G3 u 81 37 38 39 (cm3 a (dp, (bsL B ix).length, dp * sumW c (bsL B ix))) ∧ Fr (GW (f + ix.length)) σ u) := by
        intro σ23 w1 w2 hF
        unfold j_X9_goesBy_60
        rw [bnd_d]
        have F1 : Fr (GW (f + ix.length)) σ (putI σ23 81 38 (nI (mx2 a.2.1 ix.length))) := hF.tr (Fr.pI (by unfold GW; omega))
        have x1 : gI (putI σ23 81 38 (nI (mx2 a.2.1 ix.length))) 81 37 = nI (mx2 a.1 dp) := by rw [gI_put_ne (Or.inr (by decide))]; exact w1
        have x2 : gI (putI σ23 81 38 (nI (mx2 a.2.1 ix.length))) 81 38 = nI (mx2 a.2.1 ix.length) := gI_put_eq
        have x3 : gJ (putI σ23 81 38 (nI (mx2 a.2.1 ix.length))) 81 39 = lN a.2.2 := w2
        generalize putI σ23 81 38 (nI (mx2 a.2.1 ix.length)) = σ1 at *
        refine lp_acc (enc := fun (b : PH) (i : Nat) => ((nI i, b) : Int32 × PH)) ix.length (fun b i => gJ b 81 39 = lN (a.2.2 + dp * sumW c ((bsL B ix).take i)) ∧ Fr (fun r k => r = 81 ∧ k = 39) σ1 b ∧ ∀ r k, gI b r k = gI σ1 r k) _ ?_ ?_ FU σ1 0 (Nat.zero_le _) (FU_big (by omega)) ⟨by rw [x3]; rfl, Fr.rf, fun _ _ => rfl⟩
        · rintro rec b i hi ⟨j1, j2, j3⟩ hrec
          obtain ⟨q1, q2⟩ := hI i hi
          have q1' : gI b 103 (f + i) = nI (ix.getD i 0) := by rw [j3, F1.I (by unfold GW; omega)]; exact q1
          have m1 : gI b 101 (ix.getD i 0) = nI ((bsL B ix).getD i 0) := by rw [j3, F1.I (by unfold GW; omega), bsL_at hi]; exact hL _ q2
          have mb : MC c b := (hM.fr F1 (fun r k z => by unfold GW at z; omega)).fr j2 (fun r k z => by omega)
          have wb : (bsL B ix).getD i 0 < 256 := by rw [bsL_at hi]; exact hw _ (getD_mem q2)
          unfold b_X9_goesBy_66
          dsimp only
          refine Rt.f (by rw [nI_leI (by omega) (by omega)]; omega) ?_
          rw [nI_add, nI_clamp (by omega), q1', nI_clamp (by omega), m1, f9_weight ok mb wb, obd_s, bnd_d, bnd_d, j1, nI_l (by omega), nI_l (by have := wtC_big ok ((bsL B ix).getD i 0); omega), lN_mul, lN_add, nI_1]
          refine Rt.c (inb_nI (by omega) (by decide)) (Rt.c (inb_nI (by omega) (by decide)) (hrec _ ⟨?_, j2.tr (Fr.pJ ⟨rfl, rfl⟩), fun r k => j3 r k⟩))
          rw [gJ_put_eq, sumW_snoc (by omega), Nat.mul_add, Nat.add_assoc]
        · rintro rec b ⟨j1, j2, j3⟩
          unfold b_X9_goesBy_66
          rw [← el, List.take_length] at j1
          refine Rt.t (nI_le (Nat.le_refl _) (by omega)) (Rt.s ⟨⟨by dsimp only; rw [j3, x1]; rfl, by dsimp only; rw [j3, x2, el]; rfl, j1⟩, F1.tr (j2.mono (fun r k z => by unfold GW; omega))⟩)
      have l40 : Rt (j_X9_goesBy_40 σ (nI f) (nI ix.length) (nI dp) (nI (mx2 a.1 dp))) (fun u => G3 u 81 37 38 39 (cm3 a (dp, (bsL B ix).length, dp * sumW c (bsL B ix))) ∧ Fr (GW (f + ix.length)) σ u) := by
        unfold j_X9_goesBy_40
        rw [bnd_d, gI_put_ne (σ := σ) (r := 81) (k := 37) (q := 81) (j := 38) (Or.inr (by decide)), g38]
        have nx := l60 (putI σ 81 37 (nI (mx2 a.1 dp))) gI_put_eq g39 (Fr.pI (by unfold GW; omega))
        by_cases e2 : ix.length ≤ a.2.1
        · refine Rt.t (nI_le e2 (by omega)) ?_
          rw [show mx2 a.2.1 ix.length = a.2.1 by unfold mx2; split <;> omega] at nx
          exact nx
        · refine Rt.f (by rw [nI_leI (by omega) (by omega)]; exact e2) ?_
          rw [show mx2 a.2.1 ix.length = ix.length by unfold mx2; split <;> omega] at nx
          exact nx
      unfold j_X9_goesBy_15
      refine Rt.t rfl ?_
      rw [g37]
      by_cases e2 : dp ≤ a.1
      · refine Rt.t (nI_le e2 (by omega)) ?_
        rw [show mx2 a.1 dp = a.1 by unfold mx2; split <;> omega] at l40
        exact l40
      · refine Rt.f (by rw [nI_leI (by omega) (by omega)]; exact e2) ?_
        rw [show mx2 a.1 dp = dp by unfold mx2; split <;> omega] at l40
        exact l40
    unfold g_X9_goesBy
    by_cases h2 : 2 ≤ ix.length
    · refine Rt.t (by rw [i_2]; exact nI_le h2 (by omega)) ?_
      rw [f9_nextOf ok hM hT hB hI (by omega) hl, obd_s]
      by_cases e : nxC c le ne (bsL B ix) = 0
      · rw [e]; exact leaf e
      · rw [nN_p e, gV_nd e]
        obtain ⟨d0, d1, d2⟩ := nx_split e
        have hlaw := (nxC_ok e).1
        obtain ⟨s0, s1⟩ := lwC_set hlaw
        have h9 := p2_9 ok.1
        have vle := fun y (hy : 0 < ((bsL B ix).filter (soC c (nxC c le ne (bsL B ix)) y)).length) (hy2 : ((bsL B ix).filter (soC c (nxC c le ne (bsL B ix)) y)).length < ix.length) => gV_le c le ne 92 _ ((bsL B ix).filter (soC c (nxC c le ne (bsL B ix)) y)) (dp + 1) (Nat.le_refl _) hy (by omega)
        generalize nxC c le ne (bsL B ix) = s at *
        unfold j_X9_goesBy_15
        refine Rt.f (nI_nm1 (by omega)) ?_
        refine lp_acc (enc := fun (b : PH) (i : Nat) => ((nI i, b) : Int32 × PH)) 2 (fun b i => G3 b 81 37 38 39 (it (fun y x => cm3 x (gV c le ne ((bsL B ix).filter (soC c s y)) (dp + 1))) a i) ∧ Fr (GW (f + ix.length)) σ b ∧ (it (fun y x => cm3 x (gV c le ne ((bsL B ix).filter (soC c s y)) (dp + 1))) a i).1 ≤ 92 ∧ (it (fun y x => cm3 x (gV c le ne ((bsL B ix).filter (soC c s y)) (dp + 1))) a i).2.1 ≤ 93) _ ?_ ?_ FU σ 0 (Nat.zero_le _) (FU_big (by omega)) ⟨⟨g37, g38, g39⟩, Fr.rf, ha1, ha2⟩
        · rintro rec τ y hy ⟨j1, j2, j3, j4⟩ hrec
          rw [it_s] at hrec
          generalize it (fun y x => cm3 x (gV c le ne ((bsL B ix).filter (soC c s y)) (dp + 1))) a y = a' at *
          unfold b_X9_goesBy_113
          refine Rt.f (by rw [i_2, nI_leI (by decide) (by omega)]; omega) ?_
          have eb := bsL_filter B ix (soC c s y)
          have lb : (ix.filter fun i => soC c s y (B.getD i 0)).length = ((bsL B ix).filter (soC c s y)).length := by rw [← eb, bsL_len]
          have ly : 0 < ((bsL B ix).filter (soC c s y)).length ∧ ((bsL B ix).filter (soC c s y)).length < ix.length := by
            rcases (show y = 0 ∨ y = 1 by omega) with rfl | rfl
            · exact ⟨d0, by omega⟩
            · exact ⟨d1, by omega⟩
          obtain ⟨v1, v2, -⟩ := vle y ly.1 ly.2
          refine f9_lay ok (hT.fr j2 (fun k z => by unfold GW at z; omega)) hB (hI.fr j2 (fun k z1 z2 z => by unfold GW at z; omega)) hf hl hlaw hy _ _ ?_ ?_
          · intro σ7 hX hF rec2
            have F7 : Fr (GW (f + ix.length)) σ σ7 := j2.tr (hF.mono (fun r k z => by unfold GW; omega))
            unfold b_X9_goesBy_125
            refine Rt.t (nI_le (Nat.le_refl _) (by omega)) ?_
            unfold j_X9_goesBy_188
            dsimp only
            rw [nI_add, nI_1]
            refine Rt.o (ih _ σ7 (f + ix.length) (dp + 1) a' (hM.fr F7 (fun r k z => by unfold GW at z; omega)) (hT.fr F7 (fun k z => by unfold GW at z; omega)) (fun t ht => by rw [F7.I (by unfold GW; omega)]; exact hL t ht) hX (by omega) (by omega) (by omega) (by omega) (by omega) (j1.fr hF (by omega) (by omega) (by omega)) j3 j4) ?_
            intro σ8 ⟨w1, w2⟩
            rw [bnd_d, nI_1]
            rw [eb] at w1
            exact hrec σ8 ⟨w1, F7.tr (w2.mono (fun r k z => by unfold GW at *; omega)), mx2_le j3 v1, mx2_le j4 v2⟩
          · intro rec2 b1 b2 σ1 t eb2 ht c1 c2 c3 yes no ⟨k, ek, hk⟩
            unfold b_X9_goesBy_125
            dsimp only
            rw [c2]
            refine Rt.f (by rw [eb2, nI_leI (by omega) (by omega)]; omega) (Rt.c c1 (Rt.c c3 ?_))
            by_cases z : gI σ1 102 (92 * nI s + gI σ1 103 (f + t)).toNatClampNeg = nI y
            · have ci : inb (nI f + nI ix.length + b1) 9200 = true := by rw [ek, nI_add, nI_add]; exact inb_nI (by omega) (by decide)
              exact Rt.t z (Rt.c c1 (Rt.c ci (yes z ci)))
            · exact Rt.f z (no z)
        · rintro rec τ ⟨j1, j2, j3, j4⟩
          unfold b_X9_goesBy_113
          refine Rt.t (show (2 : Int32) ≤ nI 2 by decide) (Rt.s ⟨?_, j2⟩)
          rw [it_s, it_s, it_0, cm3_a] at j1
          exact j1
    · refine Rt.f (by rw [i_2, nI_leI (by decide) (by omega)]; exact h2) ?_
      exact leaf (nxC_small (by omega))
end V1
