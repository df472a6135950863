/-! the set to hear next, on the reference's side -/
def TBl (c : CV) (le ne : Nat) (B : List Nat) (σ : PH) : Prop := ∀ s, 0 < s → s < 2 ^ cN c → ∀ t, t < B.length → gI σ 102 (92 * s + t) = if lwC c le ne s then oI (sndC c s (B.getD t 0)) else -1
def bsL (B ix : List Nat) : List Nat := ix.map fun i => B.getD i 0
def IX (B : List Nat) (f : Nat) (ix : List Nat) (σ : PH) : Prop := ∀ t, t < ix.length → gI σ 103 (f + t) = nI (ix.getD t 0) ∧ ix.getD t 0 < B.length
theorem bsL_len (B ix : List Nat) : (bsL B ix).length = ix.length := List.length_map ..
theorem bsL_at {B ix : List Nat} {t : Nat} (h : t < ix.length) : (bsL B ix).getD t 0 = B.getD (ix.getD t 0) 0 := by
  unfold bsL
  rw [List.getD_eq_getElem?_getD, List.getElem?_map, List.getElem?_eq_getElem h]
  simp [List.getD, h]
theorem bsL_range (B : List Nat) : bsL B (List.range B.length) = B := by
  apply List.ext_getElem?
  intro i
  unfold bsL
  rw [List.getElem?_map]
  by_cases h : i < B.length
  · rw [List.getElem?_range h, List.getElem?_eq_getElem h]; simp [List.getD, h]
  · rw [List.getElem?_eq_none (by rw [List.length_range]; omega), List.getElem?_eq_none (by omega)]; rfl
theorem IX_range {B : List Nat} {σ : PH} (h : ∀ t, t < B.length → gI σ 103 t = nI t) : IX B 0 (List.range B.length) σ := by
  intro t ht
  rw [List.length_range] at ht
  have e : (List.range B.length).getD t 0 = t := by simp [List.getD, ht]
  rw [e, Nat.zero_add]
  exact ⟨h t ht, ht⟩
section W1
variable {c : CV} {σ : PH}
theorem TBl.fr {le ne : Nat} {B : List Nat} {σ' : PH} {W : Nat → Nat → Prop} (h : TBl c le ne B σ) (f : Fr W σ σ') (hW : ∀ k, ¬ W 102 k) : TBl c le ne B σ' := fun s a b t ht => by rw [f.I (hW _)]; exact h s a b t ht
theorem IX.fr {B ix : List Nat} {f : Nat} {σ' : PH} {W : Nat → Nat → Prop} (h : IX B f ix σ) (g : Fr W σ σ') (hW : ∀ k, f ≤ k → k < f + ix.length → ¬ W 103 k) : IX B f ix σ' := fun t ht => ⟨by rw [g.I (hW _ (by omega) (by omega))]; exact (h t ht).1, (h t ht).2⟩
theorem f9_nextOf (ok : CVok c) (hM : MC c σ) {le ne f : Nat} {B ix : List Nat} (hT : TBl c le ne B σ) (hB : B.length ≤ 92) (hI : IX B f ix σ) (hf : f + ix.length ≤ 9200) (hl : ix.length ≤ 92) : f_X9_nextOf σ (nI f) (nI ix.length) = some (nN (nxC c le ne (bsL B ix))) := by
  have h8 := ok.1
  have h9 := p2_9 h8
  have hp1 := p2_1 (cN c)
  have el := bsL_len B ix
  unfold f_X9_nextOf
  apply Rt.q
  generalize hA : 2 ^ cN c - 1 = A
  have fin : ∀ k, (nxB c le ne (bsL B ix) k).2 ≤ 92 := fun k => by have := (nxB_ok c le ne (bsL B ix) k).2.1; omega
  refine Rt.e (y := loopN (b_X9_nextOf_8 σ (nI f) (nI ix.length)) FU (nN (nxB c le ne (bsL B ix) 0).1, nI (nxB c le ne (bsL B ix) 0).2, nI (0 + 1))) (by rw [show (nxB c le ne (bsL B ix) 0).2 = ix.length from el]; rfl) ?_
  refine lp_acc (enc := fun (_ : Unit) (i : Nat) => ((nN (nxB c le ne (bsL B ix) i).1, nI (nxB c le ne (bsL B ix) i).2, nI (i + 1)) : Int32 × Int32 × Int32)) A (fun _ _ => True) _ ?_ ?_ FU () 0 (Nat.zero_le _) (FU_big (by omega)) trivial
  · rintro rec a i hi - hrec
    have es : nxB c le ne (bsL B ix) (i + 1) = stN c le ne (bsL B ix) i (nxB c le ne (bsL B ix) i) := rfl
    have f92 := fin i
    unfold b_X9_nextOf_8
    rw [bnd_d, f9_everybody ok hM, hA]
    refine Rt.f (by dsimp only; rw [nI_ltI (by omega) (by omega)]; omega) ?_
    have nx := hrec a trivial
    rw [es] at nx
    by_cases e0 : ix.length = 0
    · refine Rt.t (by rw [e0]; rfl) ?_
      rw [bnd_d]
      dsimp only
      rw [nI_1]
      have e1 : bsL B ix = [] := List.eq_nil_of_length_eq_zero (by omega)
      rw [← es, nxB_small (by rw [el]; omega)] at nx
      rw [nxB_small (by rw [el]; omega)]
      exact nx
    · refine Rt.f (by rw [i_0, nI_eq (by omega) (by decide)]; exact e0) ?_
      dsimp only
      have hB0 : 0 < B.length := by have := (hI 0 (by omega)).2; omega
      have g0 := hT (i + 1) (by omega) (by omega) 0 hB0
      rw [Nat.add_zero] at g0
      have ec : inb ((92 : Int32) * nI (i + 1)) 23552 = true := inb_in (92 * (i + 1)) (by rw [i_92, pk_mul]) (by omega) (by decide)
      refine Rt.c ec ?_
      rw [i_92, pk_mul, nI_clamp (by omega), g0]
      cases hb : lwC c le ne (i + 1) with
      | false =>
        refine Rt.t rfl ?_
        rw [bnd_d, nI_1]
        unfold stN at nx
        rw [hb, if_neg (by decide)] at nx
        exact nx
      | true =>
        refine Rt.f (by rw [if_pos rfl]; cases sndC c (i + 1) (B.getD 0 0) <;> decide) ?_
        unfold stN at nx
        rw [hb, if_pos rfl] at nx
        refine lp_acc (enc := fun (a : Nat) (t : Nat) => ((nI a, nI t) : Int32 × Int32)) ix.length (fun a t => a = ((bsL B ix).take t).countP (sndC c (i + 1))) _ ?_ ?_ FU 0 0 (Nat.zero_le _) (FU_big (by omega)) rfl
        · intro rec2 b t ht hJ hrec2
          obtain ⟨q1, q2⟩ := hI t ht
          have g1 := hT (i + 1) (by omega) (by omega) _ q2
          rw [hb, if_pos rfl, ← bsL_at (B := B) ht] at g1
          unfold b_X9_nextOf_44
          dsimp only
          rw [nI_add, nI_clamp (by omega), q1, i_92, pk_mul, nI_add, nI_clamp (by omega), g1, bnd_d, oI_nI, nI_add, bnd_d, nI_1]
          refine Rt.f (by rw [nI_leI (by omega) (by omega)]; omega) (Rt.c (inb_nI (by omega) (by decide)) (Rt.c (inb_nI (by omega) (by decide)) (hrec2 _ ?_)))
          rw [take_snoc (by omega), List.countP_append, List.countP_singleton, ← hJ]
          cases sndC c (i + 1) ((bsL B ix).getD t 0) <;> rfl
        · intro rec2 b hJ
          rw [← el, List.take_length] at hJ
          have hk := List.countP_le_length (p := sndC c (i + 1)) (l := bsL B ix)
          unfold b_X9_nextOf_44
          refine Rt.t (nI_le (Nat.le_refl _) (by omega)) ?_
          dsimp only
          have fin2 : ∀ v, v = wsN c (bsL B ix) (i + 1) → Rt (j_X9_nextOf_99 (nN (nxB c le ne (bsL B ix) i).1, nI (nxB c le ne (bsL B ix) i).2, nI (i + 1)) rec (nI v)) (fun u => u = nN (nxC c le ne (bsL B ix))) := fun v hv => by
            subst hv
            have hw92 : wsN c (bsL B ix) (i + 1) ≤ 92 := by unfold wsN mx2; split <;> omega
            unfold j_X9_nextOf_99
            dsimp only
            rw [bnd_d, bnd_d, nI_1]
            by_cases e : wsN c (bsL B ix) (i + 1) < (nxB c le ne (bsL B ix) i).2
            · refine Rt.t (nI_lt e (by omega)) ?_
              rw [if_pos e] at nx
              rw [nN_p (by omega)] at nx
              exact nx
            · refine Rt.f (by rw [nI_ltI (by omega) (by omega)]; exact e) ?_
              rw [if_neg e] at nx
              exact nx
          unfold j_X9_nextOf_81
          rw [hJ, ← el, pk_sub hk]
          by_cases e : (bsL B ix).countP (sndC c (i + 1)) ≤ (bsL B ix).length - (bsL B ix).countP (sndC c (i + 1))
          · refine Rt.t (nI_le e (by omega)) (fin2 _ ?_)
            unfold wsN mx2; split <;> omega
          · refine Rt.f (by rw [nI_leI (by omega) (by omega)]; exact e) (fin2 _ ?_)
            unfold wsN mx2; split <;> omega
  · rintro rec a -
    unfold b_X9_nextOf_8
    rw [bnd_d, f9_everybody ok hM, hA]
    refine Rt.t (nI_lt (by omega) (by omega)) (Rt.s ?_)
    dsimp only
    unfold nxC
    rw [hA]
theorem f9_tables (ok : CVok c) (hM : MC c σ) {le ne : Nat} (h2 : gI σ 81 2 = nI le) (hle : le < 100) (h3 : gI σ 81 3 = nI ne) (hne : ne < 100) {B : List Nat} (hL : LsI σ 101 B) (hB : B.length ≤ 92) (hw : ∀ w ∈ B, w < 256) : Rt (f_X9_tables σ (nI B.length)) (fun u => TBl c le ne B u ∧ Fr (fun r _ => r = 102) σ u) := by
  have h8 := ok.1
  have h9 := p2_9 h8
  have hp1 := p2_1 (cN c)
  unfold f_X9_tables
  generalize hA : 2 ^ cN c - 1 = A
  refine lp_acc (enc := fun (a : PH) (i : Nat) => ((nI (i + 1), a) : Int32 × PH)) A (fun a i => (∀ s, 0 < s → s ≤ i → ∀ t, t < B.length → gI a 102 (92 * s + t) = if lwC c le ne s then oI (sndC c s (B.getD t 0)) else -1) ∧ Fr (fun r _ => r = 102) σ a) _ ?_ ?_ FU σ 0 (Nat.zero_le _) (FU_big (by omega)) ⟨fun s a b => absurd a (by omega), Fr.rf⟩
  · rintro rec a i hi ⟨hJ, hF⟩ hrec
    unfold b_X9_tables_2
    dsimp only
    have hMa : MC c a := hM.fr hF (fun r k h => by omega)
    rw [bnd_d, f9_everybody ok hMa, hA]
    refine Rt.f (by rw [nI_ltI (by omega) (by omega)]; omega) ?_
    refine lp_acc (enc := fun (b : PH) (t : Nat) => ((nI t, b) : Int32 × PH)) B.length (fun b t => (∀ s, 0 < s → s ≤ i → ∀ t, t < B.length → gI b 102 (92 * s + t) = if lwC c le ne s then oI (sndC c s (B.getD t 0)) else -1) ∧ (∀ t', t' < t → gI b 102 (92 * (i + 1) + t') = if lwC c le ne (i + 1) then oI (sndC c (i + 1) (B.getD t' 0)) else -1) ∧ Fr (fun r _ => r = 102) σ b) _ ?_ ?_ FU a 0 (Nat.zero_le _) (FU_big (by omega)) ⟨hJ, fun t' h => absurd h (Nat.not_lt_zero _), hF⟩
    · rintro rec2 b t ht ⟨hJ1, hJ2, hFb⟩ hrec2
      have hMb : MC c b := hM.fr hFb (fun r k h => by omega)
      unfold b_X9_tables_12
      dsimp only
      refine Rt.f (by rw [nI_leI (by omega) (by omega)]; omega) ?_
      rw [f9_isLawful ok hMb (by rw [hFb.I (by omega)]; exact h2) hle (by rw [hFb.I (by omega)]; exact h3) hne (by omega) (by omega), obd_s]
      have ec : inb ((92 : Int32) * nI (i + 1) + nI t) 23552 = true := inb_in (92 * (i + 1) + t) (by rw [i_92, pk_mul, nI_add]) (by omega) (by decide)
      have ec2 : ((92 : Int32) * nI (i + 1) + nI t).toNatClampNeg = 92 * (i + 1) + t := by rw [i_92, pk_mul, nI_add, nI_clamp (by omega)]
      have step : ∀ v, (v = if lwC c le ne (i + 1) then oI (sndC c (i + 1) (B.getD t 0)) else -1) → Rt (rec2 (nI (t + 1), putI b 102 (92 * (i + 1) + t) v)) (fun u => TBl c le ne B u ∧ Fr (fun r _ => r = 102) σ u) := fun v hv => by
        refine hrec2 _ ⟨fun s s0 s1 t' ht' => ?_, fun t' ht' => ?_, hFb.tr (Fr.pI rfl)⟩
        · rw [gI_put_ne (Or.inr (by omega))]; exact hJ1 s s0 s1 t' ht'
        · by_cases e : t' = t
          · subst e; rw [gI_put_eq]; exact hv
          · rw [gI_put_ne (Or.inr (by omega))]; exact hJ2 t' (by omega)
      cases hb : lwC c le ne (i + 1) with
      | false =>
        refine Rt.t rfl (Rt.c ec ?_)
        rw [bnd_d, bnd_d, ec2, nI_1]
        exact step _ (by rw [hb]; rfl)
      | true =>
        refine Rt.f (by decide) (Rt.c (inb_nI (by omega) (by decide)) ?_)
        rw [nI_clamp (by omega), show gI b 101 t = nI (B.getD t 0) by rw [hFb.I (by omega)]; exact hL t ht, f9_soundOf ok hMb (by omega) (hw _ (getD_mem ht)), obd_s]
        refine Rt.c ec ?_
        rw [bnd_d, bnd_d, ec2, nI_1]
        exact step _ (by rw [hb]; rfl)
    · rintro rec2 b ⟨hJ1, hJ2, hFb⟩
      unfold b_X9_tables_12
      refine Rt.t (nI_le (Nat.le_refl _) (by omega)) ?_
      dsimp only
      rw [bnd_d, nI_1]
      refine hrec b ⟨fun s s0 s1 t ht => ?_, hFb⟩
      by_cases e : s = i + 1
      · subst e; exact hJ2 t ht
      · exact hJ1 s s0 (by omega) t ht
  · rintro rec a ⟨hJ, hF⟩
    have hMa : MC c a := hM.fr hF (fun r k h => by omega)
    unfold b_X9_tables_2
    dsimp only
    rw [bnd_d, f9_everybody ok hMa, hA]
    exact Rt.t (nI_lt (by omega) (by omega)) (Rt.s ⟨fun s s0 s1 => hJ s s0 (by omega), hF⟩)
def SB : Nat → Nat → Prop := fun r k => SP r k ∨ r = 102 ∨ r = 103
theorem f9_begins {r : Nat → Nat} {hs : HS} {tr : Nat} {sd : Int32} (v : HV c r hs) (hM : MHl c r hs tr sd σ) : Rt (f_X9_begins σ) (fun u => u.1 = nI (psC c (r 0) hs).length ∧ LsI u.2 101 (psC c (r 0) hs) ∧ TBl c (r 1) (r 2) (psC c (r 0) hs) u.2 ∧ IX (psC c (r 0) hs) 0 (List.range (psC c (r 0) hs).length) u.2 ∧ LsI u.2 100 (WL (cN c) (r 0)) ∧ gI u.2 81 34 = nI (WL (cN c) (r 0)).length ∧ Fr SB σ u.2) := by
  obtain ⟨ok, hr, hok⟩ := v
  have h92 : (psC c (r 0) hs).length ≤ 92 := psC_len ok hr.2.1 hs
  unfold f_X9_begins
  refine Rt.o (f9_possible ok hM.1 (hM.2.1 0 (by decide)) hr.2.1 hM.2.2.1 hok) ?_
  rintro ⟨w, σ1⟩ ⟨h1, h2, h3, h4, h5⟩
  dsimp only at h1 h2 h3 h4 h5
  subst h1
  dsimp only
  have hw : ∀ w ∈ psC c (r 0) hs, w < 256 := fun w hw => (psC_lt ok hw).2.1
  refine Rt.o (f9_tables ok (hM.1.fr h5 (fun r k h => by unfold SP at h; omega)) (le := r 1) (by rw [h5.I (by unfold SP; omega)]; exact hM.2.1 1 (by decide)) (by omega) (ne := r 2) (by rw [h5.I (by unfold SP; omega)]; exact hM.2.1 2 (by decide)) (by omega) h2 h92 hw) ?_
  rintro σ2 ⟨t1, t2⟩
  generalize psC c (r 0) hs = l at *
  refine lp_acc (enc := fun (a : PH) (i : Nat) => ((nI i, a) : Int32 × PH)) l.length (fun a i => (∀ t, t < i → gI a 103 t = nI t) ∧ Fr (fun r _ => r = 103) σ2 a) _ ?_ ?_ FU σ2 0 (Nat.zero_le _) (FU_big (by omega)) ⟨fun t h => absurd h (Nat.not_lt_zero t), Fr.rf⟩
  · rintro rec a i hi ⟨hJ, hF⟩ hrec
    unfold b_X9_begins_12
    dsimp only
    rw [nI_clamp (by omega), bnd_d, bnd_d, nI_1]
    refine Rt.f (by rw [nI_leI (by omega) (by omega)]; omega) (Rt.c (inb_nI (by omega) (by decide)) (hrec _ ⟨fun t ht => ?_, hF.tr (Fr.pI rfl)⟩))
    by_cases e : t = i
    · subst e; exact gI_put_eq
    · rw [gI_put_ne (Or.inr e)]; exact hJ t (by omega)
  · rintro rec a ⟨hJ, hF⟩
    unfold b_X9_begins_12
    have F2 : Fr (fun r _ => r = 102 ∨ r = 103) σ1 a := (t2.mono (fun r k h => Or.inl h)).tr (hF.mono (fun r k h => Or.inr h))
    refine Rt.t (nI_le (Nat.le_refl _) (by omega)) (Rt.s ⟨rfl, ?_, t1.fr hF (fun k h => by omega), IX_range hJ, ?_, ?_, (h5.mono (fun r k h => Or.inl h)).tr (F2.mono (fun r k h => Or.inr h))⟩)
    · intro t ht; dsimp only; rw [F2.I (by omega)]; exact h2 t ht
    · intro t ht; dsimp only; rw [F2.I (by omega)]; exact h4 t ht
    · dsimp only; rw [F2.I (by omega)]; exact h3
theorem SB_SCR (d : PD) (r k : Nat) (h : SB r k) : SCR d r k := by unfold SB SP at h; unfold SCR; omega
end W1
section W2
variable {j : Nat} {c : CV} {r : Nat → Nat} {hs : HS} {tr : Nat} {sd : Int32} {σ σ' : PH} {d : PD}
theorem best_ok (I : InA j c r hs tr sd σ d) : Rt (f_X2_best σ d.1 (gJ σ d.1 7) (gJ σ d.1 8)) (fun u => u.1 = nN (nxC c (r 1) (r 2) (psC c (r 0) hs)) ∧ InA j c r hs tr sd u.2 d) := by
  have hr := I.2.1.2.1
  refine (f2_best I.ok I.xq (le := r 1) (I.2.2.1.2.1.1 1 (by decide)) (by omega) (ne := r 2) (I.2.2.1.2.1.1 2 (by decide)) (by omega) I.rep).m ?_
  rintro ⟨v, σ1⟩ ⟨h1, h2, h3⟩
  exact ⟨h1, I.ca h3 h2⟩
theorem st_next (σ : PH) (d : PD) (hI : Inv σ d) : ∃ (u v : Int32 × PH), f_X8_next σ d = some u ∧ f_X9_next u.2 = some v ∧ u.1 = v.1 ∧ Inv v.2 d := by
  obtain ⟨c, r, hs, tr, sd, I⟩ := hI
  refine two (y := fun s => f_X9_next s) ?_
  have h92 := ps92 I
  unfold f_X8_next
  refine Rt.o (best_ok I) ?_
  rintro ⟨v, σ1⟩ ⟨h1, I1⟩
  refine Rt.s ?_
  dsimp only at h1 I1 ⊢
  unfold f_X9_next
  refine Rt.o (f9_begins I1.2.1 I1.2.2.2.1) ?_
  rintro ⟨w, σ2⟩ ⟨b1, b2, b3, b4, b5, b6, b7⟩
  dsimp only at b1 b2 b3 b4 b5 b6 b7
  subst b1
  have I2 := I1.scr b7 (SB_SCR d)
  dsimp only
  have e := f9_nextOf (f := 0) I2.ok I2.mc b3 h92 b4 (by rw [List.length_range]; omega) (by rw [List.length_range]; omega)
  rw [List.length_range, bsL_range] at e
  rw [show (0 : Int32) = nI 0 from rfl, e, obd_s]
  exact Rt.s ⟨h1, I2.inv⟩
end W2
