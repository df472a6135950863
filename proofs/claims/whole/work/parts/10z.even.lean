/-! evenings -/
def lcg (sd : Int32) : Int32 := sd * 1103515245 + 12345
def drI (sd : Int32) (n : Nat) : Nat := (lcg sd).toBitVec.toNat / 2 ^ 16 % n
theorem dr_rem (x : Int32) {n : Nat} (h0 : 0 < n) (hn : n < 2 ^ 31) : ((x.toUInt32 >>> ((16 : Int32).toUInt32 &&& Int32.toUInt32 31)).toInt32) - (x.toUInt32 >>> ((16 : Int32).toUInt32 &&& Int32.toUInt32 31)).toInt32 / nI n * nI n = nI (x.toBitVec.toNat / 2 ^ 16 % n) := by
  have h := pk_ushr x 16 16 (by decide)
  have e : (x.toUInt32 >>> ((16 : Int32).toUInt32 &&& Int32.toUInt32 31)).toInt32 = nI (x.toBitVec.toNat / 2 ^ 16) := by
    rw [← h]
    apply Int32.toBitVec_inj.mp
    show _ = BitVec.ofNat 32 _
    rw [BitVec.ofNat_toNat, BitVec.setWidth_eq]
  have hx := x.toBitVec.isLt
  rw [e]
  exact pk_rem (by omega) h0 hn
def evH (c : CV) (r : Nat → Nat) (tr : Nat) : Nat → HS → HS
  | 0, hs => hs
  | n + 1, hs => if 16 ≤ hs.length then hs else if nxC c (r 1) (r 2) (psC c (r 0) hs) = 0 then hs else evH c r tr n (hs ++ [(nxC c (r 1) (r 2) (psC c (r 0) hs), (sndC c (nxC c (r 1) (r 2) (psC c (r 0) hs)) tr).toNat)])
theorem evH_s (c : CV) (r : Nat → Nat) (tr n : Nat) (hs : HS) : evH c r tr (n + 1) hs = if 16 ≤ hs.length then hs else if nxC c (r 1) (r 2) (psC c (r 0) hs) = 0 then hs else evH c r tr n (hs ++ [(nxC c (r 1) (r 2) (psC c (r 0) hs), (sndC c (nxC c (r 1) (r 2) (psC c (r 0) hs)) tr).toNat)]) := rfl
theorem nx_new {c : CV} {le ne m : Nat} {hs : HS} (h : nxC c le ne (psC c m hs) ≠ 0) (y : Nat) : knC hs (nxC c le ne (psC c m hs)) y = false := by
  cases e : knC hs (nxC c le ne (psC c m hs)) y with
  | false => rfl
  | true =>
    obtain ⟨-, h1, h2⟩ := nxC_ok h
    unfold knC at e
    rw [List.any_eq_true] at e
    obtain ⟨q, hq, hq2⟩ := e
    rw [decide_eq_true_eq] at hq2
    obtain ⟨q1, q2⟩ := hq2
    have all : ∀ w ∈ psC c m hs, (sndC c (nxC c le ne (psC c m hs)) w).toNat = q.2 := fun w hw => by
      have := (List.mem_filter.mp hw).2
      unfold okH at this
      rw [List.all_eq_true] at this
      have := of_decide_eq_true (this q hq)
      rw [q1] at this
      exact this
    generalize nxC c le ne (psC c m hs) = s at *
    by_cases z : q.2 = 0
    · have : (psC c m hs).countP (sndC c s) = 0 := by
        rw [List.countP_eq_zero]
        intro w hw hs'
        have := all w hw
        rw [hs', z] at this
        exact absurd this (by decide)
      omega
    · have : (psC c m hs).countP (sndC c s) = (psC c m hs).length := by
        rw [List.countP_eq_length]
        intro w hw
        have := all w hw
        cases hb : sndC c s w with
        | true => rfl
        | false => rw [hb] at this; exact absurd this.symm z
      omega
theorem psC_app (c : CV) (m : Nat) (hs : HS) (q : Nat × Nat) : psC c m (hs ++ [q]) = (psC c m hs).filter (soC c q.1 q.2) := okH_snoc c hs q _
theorem psC_nil (c : CV) (m : Nat) : psC c m [] = WL (cN c) m := by
  unfold psC
  rw [List.filter_eq_self]
  intro w _; rfl
section EV8
variable {c : CV} {r : Nat → Nat} {hs : HS} {tr : Nat} {sd : Int32} {σ : PH} {h : Nat}
theorem f2_evening (v : HV c r hs) (hX : XH c r hs tr sd σ h) (hne : 0 < (WL (cN c) (r 0)).length) : Rt (f_X2_evening σ h) (fun u => u.1 = nI (evH c r ((WL (cN c) (r 0)).getD (drI sd (WL (cN c) (r 0)).length) 0) 17 []).length ∧ XH c r (evH c r ((WL (cN c) (r 0)).getD (drI sd (WL (cN c) (r 0)).length) 0) 17 []) ((WL (cN c) (r 0)).getD (drI sd (WL (cN c) (r 0)).length) 0) (lcg sd) u.2 h ∧ HV c r (evH c r ((WL (cN c) (r 0)).getD (drI sd (WL (cN c) (r 0)).length) 0) 17 []) ∧ Fr (WH h) σ u.2) := by
  obtain ⟨ok, hr, hok⟩ := v
  obtain ⟨hQ, hT, hTr, hR⟩ := hX
  have h92 := hQ.2.2.2
  have h9 := p2_9 ok.1
  unfold f_X2_evening
  have hlt : drI sd (WL (cN c) (r 0)).length < (WL (cN c) (r 0)).length := Nat.mod_lt _ hne
  have D : Rt (f_X2_draw σ h (gI σ (h + 7) 3)) (fun u => u.1 = nI (drI sd (WL (cN c) (r 0)).length) ∧ gI u.2 h 5 = lcg sd ∧ Fr (fun r k => r = h ∧ k = 5) σ u.2) := by
    unfold f_X2_draw
    rw [show gI σ (h + 7) 3 = nI (WL (cN c) (r 0)).length from hQ.2.1.1, hT.2.2, bnd_d, gI_put_eq]
    refine Rt.f (by rw [i_0, nI_leI (by omega) (by decide)]; omega) (Rt.c (by rw [i_0, nI_eq (by omega) (by decide)]; omega) (Rt.s ⟨dr_rem (lcg sd) hne (by omega), gI_put_eq, Fr.pI ⟨rfl, rfl⟩⟩))
  refine Rt.o D ?_
  rintro ⟨w, σ1⟩ ⟨d1, d2, F1⟩
  dsimp only at d1 d2 F1
  subst d1
  dsimp only
  generalize hL : WL (cN c) (r 0) = L at *
  generalize drI sd L.length = t at *
  have X2 := f2_makeTrue (c := c) (r := r) (tr := L.getD t 0) (t := t) (sd := lcg sd) (σ := σ1) (h := h) (by rw [hL]; exact hQ.fr F1 (fun r k z => by omega)) ⟨fun k hk => by rw [F1.I (by omega)]; exact hT.1 k hk, d2⟩ (by rw [hL]; exact Or.inr ⟨hlt, rfl⟩)
  rw [bnd_d]
  obtain ⟨X2, F2⟩ := X2
  generalize f_X2_makeTrue σ1 h (nI t) = σ2 at *
  have F0 : Fr (WH h) σ σ2 := (F1.mono (fun r k z => by unfold WH; omega)).tr (F2.mono (fun r k z => by unfold WH; omega))
  generalize L.getD t 0 = tr' at *
  generalize hH : evH c r tr' 17 [] = H
  refine lp_rule (I := fun m q => ∃ hs, q.1 = nI hs.length ∧ m + hs.length = 16 ∧ XH c r hs tr' (lcg sd) q.2 h ∧ HV c r hs ∧ evH c r tr' (m + 1) hs = H ∧ Fr (WH h) σ q.2) _ ?_ FU 16 (0, σ2) (FU_big (by decide)) ⟨[], rfl, rfl, X2, HV.nil ok hr, hH, F0⟩
  rintro m rec ⟨q, τ⟩ ⟨ks, e1, e2, e3, e4, e5, e6⟩ hrec
  dsimp only at e1 e3 e6
  subst e1
  rw [evH_s] at e5
  unfold b_X2_evening_17
  dsimp only
  have k4 : gI τ h 4 = nI ks.length := e3.2.1.2.1.1
  by_cases z : 16 ≤ ks.length
  · rw [if_pos z] at e5
    subst e5
    exact Rt.t (by rw [i_16]; exact nI_le z (by omega)) (Rt.s ⟨k4, e3, e4, e6⟩)
  · rw [if_neg z] at e5
    refine Rt.f (by rw [i_16, nI_leI (by decide) (by omega)]; exact z) ?_
    rw [bnd_d]
    refine Rt.f (by unfold f_X2_hasRoom; rw [k4, if_neg (by rw [i_16, nI_leI (by decide) (by omega)]; exact z)]; decide) ?_
    refine Rt.o (f2_best ok e3.1 (le := r 1) (e3.2.1.1 1 (by decide)) (by omega) (ne := r 2) (e3.2.1.1 2 (by decide)) (by omega) e3.2.2.2) ?_
    rintro ⟨w, σ3⟩ ⟨b1, b2, b3⟩
    dsimp only at b1 b2 b3
    subst b1
    have X3 := e3.k b3 b2
    have F3 : Fr (WH h) σ σ3 := e6.tr (b3.mono (fun r k z => WK_WH _ _ _ z))
    rw [show (WL (cN c) (r 0)).filter (okH c ks) = psC c (r 0) ks from rfl]
    dsimp only
    by_cases hn : nxC c (r 1) (r 2) (psC c (r 0) ks) = 0
    · rw [if_pos hn] at e5
      subst e5
      rw [hn]
      refine Rt.t rfl ?_
      unfold j_X2_evening_48
      exact Rt.s ⟨X3.2.1.2.1.1, X3, e4, F3⟩
    · rw [if_neg hn] at e5
      have hnew := nx_new hn
      obtain ⟨s0, s1⟩ := lwC_set (nxC_ok hn).1
      rw [nN_p hn]
      generalize nxC c (r 1) (r 2) (psC c (r 0) ks) = s at *
      refine Rt.f (nI_nm1 (by omega)) ?_
      obtain ⟨t2, ht2, hT2⟩ := X3.2.2.1
      obtain ⟨a, b⟩ := TR_pos hT2 (by rw [hL]; exact hne)
      unfold f_X2_soundInTruth
      rw [ht2]
      have S : Rt (obd (f_X7_soundOf σ3 h (nI s) (nI t2)) fun u1 => some (u1.1, u1.2)) (fun u => u.1 = oI (wrW c (WL (cN c) (r 0)) s t2) ∧ XQ c (WL (cN c) (r 0)) u.2 h ∧ Fr (WK h) σ3 u.2) := Rt.o (f7_soundOf ok X3.1 s0 s1 (by rw [hL] at a; omega)) (fun u hu => Rt.s hu)
      refine Rt.o S ?_
      rintro ⟨w, σ4⟩ ⟨c1, c2, c3⟩
      dsimp only at c1 c2 c3
      rw [wrW_at a, b, oI_nI] at c1
      subst c1
      dsimp only
      have hlen : ks.length < 16 := by omega
      refine Rt.o (f2_learn e4 (X3.k c3 c2) s0 s1 (oI_lt2 _)) ?_
      intro σ5 ⟨X5, F5⟩
      rw [learn_yes (hnew _) hlen] at X5
      have v5 := e4.lr s0 s1 (oI_lt2 (sndC c s tr'))
      rw [learn_yes (hnew _) hlen] at v5
      rw [bnd_d, nI_1]
      exact hrec (m - 1) _ (by omega) ⟨_, by rw [List.length_append]; rfl, by rw [List.length_append, List.length_singleton]; omega, X5, v5, by rw [show m - 1 + 1 = m by omega]; exact e5, (F3.tr (c3.mono (fun r k z => WK_WH _ _ _ z))).tr F5⟩
end EV8
def EW (r k : Nat) : Prop := (r = 81 ∧ (k = 5 ∨ k = 6 ∨ k = 7)) ∨ r = 87 ∨ r = 88 ∨ r = 103
section EV9
variable {c : CV} {r : Nat → Nat} {hs : HS} {tr : Nat} {sd : Int32} {σ : PH}
theorem f9_evening (v : HV c r hs) (hM : MHl c r hs tr sd σ) (hne : 0 < (WL (cN c) (r 0)).length) (hT : TBl c (r 1) (r 2) (WL (cN c) (r 0)) σ) (hL100 : LsI σ 100 (WL (cN c) (r 0))) (h34 : gI σ 81 34 = nI (WL (cN c) (r 0)).length) : Rt (f_X9_evening σ) (fun u => u.1 = nI (evH c r ((WL (cN c) (r 0)).getD (drI sd (WL (cN c) (r 0)).length) 0) 17 []).length ∧ MHl c r (evH c r ((WL (cN c) (r 0)).getD (drI sd (WL (cN c) (r 0)).length) 0) 17 []) ((WL (cN c) (r 0)).getD (drI sd (WL (cN c) (r 0)).length) 0) (lcg sd) u.2 ∧ Fr EW σ u.2) := by
  obtain ⟨ok, hr, hok⟩ := v
  have h9 := p2_9 ok.1
  have h92 : (WL (cN c) (r 0)).length ≤ 92 := by have := psC_len ok hr.2.1 []; rw [psC_nil] at this; exact this
  have hw : ∀ w ∈ WL (cN c) (r 0), w < 256 := fun w hw => (WL_lt ok.1 hw).2.1
  have pn := psC_nil c (r 0)
  unfold f_X9_evening
  have hlt : drI sd (WL (cN c) (r 0)).length < (WL (cN c) (r 0)).length := Nat.mod_lt _ hne
  have D : Rt (f_X9_draw σ (gI σ 81 34)) (fun u => u.1 = nI (drI sd (WL (cN c) (r 0)).length) ∧ gI u.2 81 7 = lcg sd ∧ Fr (fun r k => r = 81 ∧ k = 7) σ u.2) := by
    unfold f_X9_draw
    rw [h34, hM.2.2.2.2, bnd_d, gI_put_eq]
    refine Rt.c (by rw [i_0, nI_eq (by omega) (by decide)]; omega) (Rt.s ⟨dr_rem (lcg sd) hne (by omega), gI_put_eq, Fr.pI ⟨rfl, rfl⟩⟩)
  refine Rt.o D ?_
  rintro ⟨w, σ1⟩ ⟨d1, d2, F1⟩
  dsimp only at d1 d2 F1
  subst d1
  dsimp only
  generalize hL : WL (cN c) (r 0) = L at *
  generalize drI sd L.length = t at *
  refine Rt.c (inb_nI (by omega) (by decide)) ?_
  rw [bnd_d, bnd_d, nI_clamp (by omega), F1.I (r := 100) (by omega), hL100 t hlt]
  have F3 : Fr (fun r k => r = 81 ∧ (k = 6 ∨ k = 5)) σ1 (putI (putI σ1 81 6 (nI (L.getD t 0))) 81 5 0) := (Fr.pI (by omega)).tr (Fr.pI (by omega))
  have a6 : gI (putI (putI σ1 81 6 (nI (L.getD t 0))) 81 5 0) 81 6 = nI (L.getD t 0) := by rw [gI_put_ne (Or.inr (by decide)), gI_put_eq]
  have a5 : gI (putI (putI σ1 81 6 (nI (L.getD t 0))) 81 5 0) 81 5 = nI 0 := gI_put_eq
  generalize putI (putI σ1 81 6 (nI (L.getD t 0))) 81 5 0 = σ2 at *
  have F0 : Fr EW σ σ2 := (F1.mono (fun r k z => by unfold EW; omega)).tr (F3.mono (fun r k z => by unfold EW; omega))
  have M2 : MHl c r [] (L.getD t 0) (lcg sd) σ2 := ⟨hM.1.fr F0 (fun r k z => by unfold EW at z; omega), fun k hk => by rw [F0.I (by unfold EW; omega)]; exact hM.2.1 k hk, ⟨a5, fun k hk => absurd hk (Nat.not_lt_zero k)⟩, a6, by rw [F3.I (by omega)]; exact d2⟩
  have trl : L.getD t 0 < 256 := hw _ (getD_mem hlt)
  generalize L.getD t 0 = tr' at *
  rw [bnd_d, F0.I (r := 81) (k := 34) (by unfold EW; omega), h34]
  generalize hH : evH c r tr' 17 [] = H
  refine lp_acc (enc := fun (a : PH) (i : Nat) => ((nI i, a) : Int32 × PH)) L.length (fun a i => (∀ t, t < i → gI a 103 t = nI t) ∧ Fr (fun r _ => r = 103) σ2 a) _ ?_ ?_ FU σ2 0 (Nat.zero_le _) (FU_big (by omega)) ⟨fun t h => absurd h (Nat.not_lt_zero t), Fr.rf⟩
  · rintro rec a i hi ⟨hJ, hF⟩ hrec
    unfold b_X9_evening_34
    dsimp only
    rw [nI_clamp (by omega), bnd_d, bnd_d, nI_1]
    refine Rt.f (by rw [nI_leI (by omega) (by omega)]; omega) (Rt.c (inb_nI (by omega) (by decide)) (hrec _ ⟨fun t ht => ?_, hF.tr (Fr.pI rfl)⟩))
    by_cases e : t = i
    · subst e; exact gI_put_eq
    · rw [gI_put_ne (Or.inr e)]; exact hJ t (by omega)
  rintro rec0 σ3 ⟨hJ, hF⟩
  unfold b_X9_evening_34
  refine Rt.t (nI_le (Nat.le_refl _) (by omega)) ?_
  dsimp only
  have FF3 : Fr EW σ σ3 := F0.tr (hF.mono (fun r k z => by unfold EW; omega))
  have M3 : MHl c r [] tr' (lcg sd) σ3 := M2.fr hF (fun r k z => by unfold WM; omega)
  have T3 : TBl c (r 1) (r 2) L σ3 := hT.fr FF3 (fun k z => by unfold EW at z; omega)
  have lr : (List.range L.length).length = L.length := List.length_range
  have big : ∀ (σ4 : PH) (ks : HS) (ix : List Nat) (off m : Nat), bsL L ix = psC c (r 0) ks → MHl c r ks tr' (lcg sd) σ4 → TBl c (r 1) (r 2) L σ4 → IX L off ix σ4 → off + 92 * ix.length ≤ 9200 → ix.length ≤ 92 → m + ks.length = 16 → evH c r tr' (m + 1) ks = H → Fr EW σ σ4 → Rt (loopN b_X9_evening_72 FU (nI ix.length, nI off, nI ks.length, nN (nxC c (r 1) (r 2) (psC c (r 0) ks)), σ4)) (fun u => u.1 = nI H.length ∧ MHl c r H tr' (lcg sd) u.2 ∧ Fr EW σ u.2) := by
    intro σ4 ks ix off m z1 z2 z3 z4 z5 z6 z7 z8 z9
    refine lp_rule (I := fun m q => ∃ ks ix off σ4, q = (nI ix.length, nI off, nI ks.length, nN (nxC c (r 1) (r 2) (psC c (r 0) ks)), σ4) ∧ bsL L ix = psC c (r 0) ks ∧ MHl c r ks tr' (lcg sd) σ4 ∧ TBl c (r 1) (r 2) L σ4 ∧ IX L off ix σ4 ∧ off + 92 * ix.length ≤ 9200 ∧ ix.length ≤ 92 ∧ m + ks.length = 16 ∧ evH c r tr' (m + 1) ks = H ∧ Fr EW σ σ4) _ ?_ FU m _ (FU_big (by omega)) ⟨ks, ix, off, σ4, rfl, z1, z2, z3, z4, z5, z6, z7, z8, z9⟩
    clear z1 z2 z3 z4 z5 z6 z7 z8 z9 σ4 ks ix off m
    rintro m rec _ ⟨ks, ix, off, τ, rfl, z1, z2, z3, z4, z5, z6, z7, z8, z9⟩ hrec
    have el := bsL_len L ix
    rw [z1] at el
    rw [evH_s] at z8
    unfold b_X9_evening_72
    dsimp only
    have k5 : gI τ 81 5 = nI ks.length := z2.2.2.1.1
    by_cases hn : nxC c (r 1) (r 2) (psC c (r 0) ks) = 0
    · rw [hn]
      refine Rt.t rfl (Rt.s ?_)
      rw [if_pos hn, ite_self] at z8
      subst z8
      exact ⟨rfl, z2, z9⟩
    rw [nN_p hn, if_neg hn] at *
    obtain ⟨d0, d1, d2⟩ := nx_split hn
    have hlaw := (nxC_ok hn).1
    obtain ⟨s0, s1⟩ := lwC_set hlaw
    generalize nxC c (r 1) (r 2) (psC c (r 0) ks) = s at *
    refine Rt.f (nI_nm1 (by omega)) ?_
    rw [k5]
    by_cases z : 16 ≤ ks.length
    · rw [if_pos z] at z8
      subst z8
      exact Rt.t (by rw [i_16]; exact nI_le z (by omega)) (Rt.s ⟨rfl, z2, z9⟩)
    rw [if_neg z] at z8
    refine Rt.f (by rw [i_16, nI_leI (by decide) (by omega)]; exact z) ?_
    rw [z2.2.2.2.1, f9_soundOf ok z2.1 (by omega) trl, obd_s, oI_nI]
    refine Rt.o (f9_knows z2 (by omega) s _) ?_
    intro σ5 ⟨M5, F5⟩
    rw [bnd_d, nI_1]
    have hy := oI_lt2 (sndC c s tr')
    generalize (sndC c s tr').toNat = y at *
    have F5' : Fr EW τ σ5 := F5.mono (fun r k z => by unfold EW; omega)
    have eb := bsL_filter L ix (soC c s y)
    have lb : (ix.filter fun i => soC c s y (L.getD i 0)).length = ((psC c (r 0) ks).filter (soC c s y)).length := by rw [← z1, ← eb, bsL_len]
    have ly : ((psC c (r 0) ks).filter (soC c s y)).length < ix.length := by
      rcases (show y = 0 ∨ y = 1 by omega) with rfl | rfl <;> omega
    have T5 : TBl c (r 1) (r 2) L σ5 := z3.fr F5 (fun k z => by omega)
    refine f9_lay ok T5 h92 (z4.fr F5 (fun k z1 z2 z => by omega)) z5 z6 hlaw hy _ _ ?_ ?_
    · intro σ7 hX hF7 rec2
      unfold b_X9_evening_116
      refine Rt.t (nI_le (Nat.le_refl _) (by omega)) ?_
      unfold j_X9_evening_179
      dsimp only
      rw [bnd_d, nI_add]
      have M7 : MHl c r (ks ++ [(s, y)]) tr' (lcg sd) σ7 := M5.fr hF7 (fun r k z => by unfold WM; omega)
      have T7 : TBl c (r 1) (r 2) L σ7 := T5.fr hF7 (fun k z => by omega)
      have e7 : bsL L (ix.filter fun i => soC c s y (L.getD i 0)) = psC c (r 0) (ks ++ [(s, y)]) := by rw [eb, psC_app, z1]
      have fin : Rt (rec (nI (ix.filter fun i => soC c s y (L.getD i 0)).length, nI (off + ix.length), nI (ks ++ [(s, y)]).length, nN (nxC c (r 1) (r 2) (psC c (r 0) (ks ++ [(s, y)]))), σ7)) (fun u => u.1 = nI H.length ∧ MHl c r H tr' (lcg sd) u.2 ∧ Fr EW σ u.2) :=
        hrec (m - 1) _ (by omega) ⟨_, _, _, σ7, rfl, e7, M7, T7, hX, by omega, by omega, by rw [List.length_append, List.length_singleton]; omega, by rw [show m - 1 + 1 = m by omega]; exact z8, (z9.tr F5').tr (hF7.mono (fun r k z => by unfold EW; omega))⟩
      rw [List.length_append, List.length_singleton] at fin
      by_cases h2 : 2 ≤ (ix.filter fun i => soC c s y (L.getD i 0)).length
      · refine Rt.t (by rw [i_2]; exact nI_le h2 (by omega)) ?_
        rw [f9_nextOf ok M7.1 T7 h92 hX (by omega) (by omega), obd_s, e7, Nat.add_comm off]
        rw [Nat.add_comm off] at fin
        exact fin
      · refine Rt.f (by rw [i_2, nI_leI (by decide) (by omega)]; exact h2) ?_
        rw [nxC_small (by rw [← e7, bsL_len]; omega)] at fin
        exact fin
    · intro rec2 b1 b2 σ8 t eb2 ht c1 c2 c3 yes no ⟨k, ek, hk⟩
      unfold b_X9_evening_116
      dsimp only
      rw [c2]
      refine Rt.f (by rw [eb2, nI_leI (by omega) (by omega)]; omega) (Rt.c c1 (Rt.c c3 ?_))
      by_cases z : gI σ8 102 (92 * nI s + gI σ8 103 (off + t)).toNatClampNeg = nI y
      · have ci : inb (nI off + nI ix.length + b1) 9200 = true := by rw [ek, nI_add, nI_add]; exact inb_nI (by omega) (by decide)
        exact Rt.t z (Rt.c c1 (Rt.c ci (yes z ci)))
      · exact Rt.f z (no z)
  have e0 : bsL L (List.range L.length) = psC c (r 0) [] := by rw [bsL_range, pn]
  have B0 := big σ3 [] (List.range L.length) 0 16 e0 M3 T3 (IX_range hJ) (by omega) (by omega) rfl hH FF3
  rw [lr] at B0
  unfold j_X9_evening_55
  by_cases h2 : 2 ≤ L.length
  · refine Rt.t (by rw [i_2]; exact nI_le h2 (by omega)) ?_
    have e := f9_nextOf (f := 0) ok M3.1 T3 h92 (IX_range hJ) (by rw [lr]; omega) (by rw [lr]; omega)
    rw [lr, e0] at e
    rw [show (0 : Int32) = nI 0 from rfl, e, obd_s]
    exact B0
  · refine Rt.f (by rw [i_2, nI_leI (by decide) (by omega)]; exact h2) ?_
    rw [nxC_small (by rw [← e0, bsL_len, lr]; omega)] at B0
    exact B0
end EV9
section EVS
variable {j : Nat} {c : CV} {r : Nat → Nat} {hs : HS} {tr : Nat} {sd : Int32} {σ σ' : PH} {d : PD}
abbrev EX : Type := HS × Nat × Int32 × Nat
def eSt (c : CV) (r : Nat → Nat) (_ : Nat) (x : EX) : EX :=
  (evH c r ((WL (cN c) (r 0)).getD (drI x.2.2.1 (WL (cN c) (r 0)).length) 0) 17 [], (WL (cN c) (r 0)).getD (drI x.2.2.1 (WL (cN c) (r 0)).length) 0, lcg x.2.2.1, x.2.2.2 + (evH c r ((WL (cN c) (r 0)).getD (drI x.2.2.1 (WL (cN c) (r 0)).length) 0) 17 []).length)
theorem eSt_same (c : CV) (r : Nat → Nat) (hs hs' : HS) (tr tr' : Nat) (sd : Int32) : ∀ k, it (eSt c r) (hs, tr, sd, 0) (k + 1) = it (eSt c r) (hs', tr', sd, 0) (k + 1)
  | 0 => rfl
  | k + 1 => by rw [it_s, eSt_same c r hs hs' tr tr' sd k]; rfl
theorem evH_okn {tr : Nat} (ok : CVok c) (hr : 1 ≤ r 0 ∧ r 0 ≤ 3 ∧ 1 ≤ r 1 ∧ r 1 ≤ 8 ∧ r 2 ≤ 1 ∧ r 3 ≤ 50) : ∀ (n : Nat) (ks : HS), HV c r ks → HV c r (evH c r tr n ks)
  | 0, _, v => v
  | n + 1, ks, v => by
    rw [evH_s]
    by_cases z : 16 ≤ ks.length
    · rw [if_pos z]; exact v
    rw [if_neg z]
    by_cases hn : nxC c (r 1) (r 2) (psC c (r 0) ks) = 0
    · rw [if_pos hn]; exact v
    rw [if_neg hn]
    obtain ⟨s0, s1⟩ := lwC_set (nxC_ok hn).1
    have v5 := v.lr s0 s1 (oI_lt2 (sndC c (nxC c (r 1) (r 2) (psC c (r 0) ks)) tr))
    rw [learn_yes (nx_new hn _) (by omega)] at v5
    exact evH_okn ok hr n _ v5
theorem evH_ok {tr : Nat} (v : HV c r hs) : HV c r (evH c r tr 17 []) := evH_okn v.1 v.2.1 17 [] (HVnil v)
theorem st_evenings (σ : PH) (d : PD) (p1 : Int32) (hI : Inv σ d) : ∃ (u v : Int32 × PH), f_X8_evenings σ d p1 = some u ∧ f_X9_evenings u.2 p1 = some v ∧ u.1 = v.1 ∧ Inv v.2 d := by
  obtain ⟨c, r, hs, tr, sd, I⟩ := hI
  refine two (y := fun s => f_X9_evenings s p1) ?_
  have n8 := I.n8
  have hd := I.1.1
  unfold f_X8_evenings
  rw [show gI σ (d.1 + 1) 5 = nI (cN c) from I.xc.1]
  have e81 : ∀ {k : Nat} {σ1 : PH}, InA k c r hs tr sd σ1 d → gI σ1 81 0 = nI (cN c) := fun I1 => I1.mc.1
  by_cases hn : cN c = 0
  · rw [if_pos (by rw [hn]; rfl)]
    refine rf5 I (fun s => f_X9_evenings s p1) (fun σ1 I1 _ => ?_)
    unfold f_X9_evenings
    rw [e81 I1, if_pos (by rw [hn]; rfl)]
  have nn : ¬ nI (cN c) = 0 := by rw [i_0, nI_eq (by omega) (by decide)]; exact hn
  rw [if_neg nn]
  by_cases h1 : p1 < 1
  · rw [if_pos h1]
    refine rf6 I (fun s => f_X9_evenings s p1) (fun σ1 I1 _ => ?_)
    unfold f_X9_evenings
    rw [e81 I1, if_neg nn, if_pos h1]
  rw [if_neg h1]
  by_cases h2 : ¬ p1 ≤ 20
  · rw [if_neg h2]
    refine rf6 I (fun s => f_X9_evenings s p1) (fun σ1 I1 _ => ?_)
    unfold f_X9_evenings
    rw [e81 I1, if_neg nn, if_neg h1, if_neg h2]
  have h2 := Decidable.not_not.mp h2
  rw [if_pos h2]
  obtain ⟨n, hn1, hn2, rfl⟩ : ∃ n, 1 ≤ n ∧ n ≤ 20 ∧ p1 = nI n := by
    rcases i_between p1 1 20 (by decide) (by decide) with ⟨v, a, b, e, -, -⟩ | ⟨z, -⟩
    · exact ⟨v, a, b, e⟩
    · exfalso
      rcases z with z | ⟨-, z⟩
      · exact h1 z
      · rw [Int32.lt_iff_toInt_lt] at z
        rw [Int32.le_iff_toInt_le] at h2
        have : (nI 20).toInt = (20 : Int32).toInt := rfl
        omega
  have hne : 0 < (WL (cN c) (r 0)).length := WL_pos I (s := 1) (by decide) (by have := Nat.pow_le_pow_right (n := 2) (by decide) (show 1 ≤ cN c by omega); omega)
  refine lp_acc (enc := fun (a : PH) (i : Nat) => ((nI (it (eSt c r) (hs, tr, sd, 0) i).2.2.2, nI i, a) : Int32 × Int32 × PH)) n (fun a i => HV c r (it (eSt c r) (hs, tr, sd, 0) i).1 ∧ XH c r (it (eSt c r) (hs, tr, sd, 0) i).1 (it (eSt c r) (hs, tr, sd, 0) i).2.1 (it (eSt c r) (hs, tr, sd, 0) i).2.2.1 a d.1 ∧ Fr (WH d.1) σ a) _ ?_ ?_ FU σ 0 (Nat.zero_le _) (FU_big (by omega)) ⟨I.2.1, I.2.2.1, Fr.rf⟩
  · rintro rec a i hi ⟨v, X, F⟩ hrec
    unfold b_X8_evenings_42
    dsimp only
    refine Rt.f (by rw [nI_leI (by omega) (by omega)]; omega) ?_
    rw [it_s] at hrec
    generalize it (eSt c r) (hs, tr, sd, 0) i = x at *
    obtain ⟨x1, x2, x3, x4⟩ := x
    dsimp only at v X hrec ⊢
    refine Rt.o (f2_evening v X hne) ?_
    rintro ⟨w, σ2⟩ ⟨b1, b2, b3, b4⟩
    dsimp only at b1 b2 b3 b4
    subst b1
    rw [bnd_d, bnd_d, nI_1]
    dsimp only
    rw [nI_add]
    exact hrec σ2 ⟨b3, b2, F.tr b4⟩
  · rintro rec a ⟨v, X, F⟩
    unfold b_X8_evenings_42
    refine Rt.t (nI_le (Nat.le_refl _) (by omega)) (Rt.s ?_)
    dsimp only
    obtain ⟨n', rfl⟩ : ∃ n', n = n' + 1 := ⟨n - 1, by omega⟩
    have es := eSt_same c r hs [] tr tr sd n'
    have Ma : MHl c r hs tr sd a := I.2.2.2.1.fr F (fun r k z => by unfold WH at z; unfold WM; unfold Hls at hd; omega)
    unfold f_X9_evenings
    refine Rt.f (by rw [Ma.1.1]; exact nn) (Rt.f h1 (Rt.t h2 ?_))
    rw [bnd_d]
    have F1 : Fr EW a (putI a 81 5 0) := Fr.pI (by unfold EW; omega)
    have M1 : MHl c r [] tr sd (putI a 81 5 0) := ⟨Ma.1.fr F1 (fun r k z => by unfold EW at z; omega), fun k hk => by rw [gI_put_ne (Or.inr (by omega))]; exact Ma.2.1 k hk, ⟨gI_put_eq, fun k hk => absurd hk (Nat.not_lt_zero k)⟩, by rw [gI_put_ne (Or.inr (by decide))]; exact Ma.2.2.2.1, by rw [gI_put_ne (Or.inr (by decide))]; exact Ma.2.2.2.2⟩
    generalize putI a 81 5 0 = σ1 at *
    refine Rt.o (f9_begins (HVnil I.2.1) M1) ?_
    rintro ⟨w, σ2⟩ ⟨b1, b2, b3, b4, b5, b6, b7⟩
    rw [psC_nil] at b3
    dsimp only at b3 b5 b6 b7 ⊢
    have M2 : MHl c r [] tr sd σ2 := M1.fr b7 (fun r k z => by unfold SB SP at z; unfold WM; omega)
    have F2 : Fr (fun r k => EW r k ∨ SB r k) a σ2 := (F1.mono (fun r k z => Or.inl z)).tr (b7.mono (fun r k z => Or.inr z))
    generalize hm : n' + 1 = n at *
    refine lp_acc (enc := fun (b : PH) (i : Nat) => ((nI (it (eSt c r) (([] : HS), tr, sd, 0) i).2.2.2, nI i, b) : Int32 × Int32 × PH)) n (fun b i => MHl c r (it (eSt c r) ([], tr, sd, 0) i).1 (it (eSt c r) ([], tr, sd, 0) i).2.1 (it (eSt c r) ([], tr, sd, 0) i).2.2.1 b ∧ HV c r (it (eSt c r) ([], tr, sd, 0) i).1 ∧ Fr EW σ2 b) _ ?_ ?_ FU σ2 0 (Nat.zero_le _) (FU_big (by omega)) ⟨M2, HVnil I.2.1, Fr.rf⟩
    · rintro rec2 b i hi ⟨Mb, vb, Fb⟩ hrec2
      unfold b_X9_evenings_46
      dsimp only
      refine Rt.f (by rw [nI_leI (by omega) (by omega)]; omega) ?_
      rw [it_s] at hrec2
      generalize it (eSt c r) (([] : HS), tr, sd, 0) i = x at *
      obtain ⟨x1, x2, x3, x4⟩ := x
      dsimp only at Mb vb hrec2 ⊢
      refine Rt.o (f9_evening vb Mb hne (b3.fr Fb (fun k z => by unfold EW at z; omega)) (fun t ht => by rw [Fb.I (by unfold EW; omega)]; exact b5 t ht) (by rw [Fb.I (by unfold EW; omega)]; exact b6)) ?_
      rintro ⟨w, σ3⟩ ⟨q1, q2, q3⟩
      dsimp only at q1 q2 q3
      subst q1
      rw [bnd_d, bnd_d, nI_1]
      dsimp only
      rw [nI_add]
      exact hrec2 σ3 ⟨q2, evH_ok vb, Fb.tr q3⟩
    · rintro rec2 b ⟨Mb, vb, Fb⟩
      unfold b_X9_evenings_46
      refine Rt.t (nI_le (Nat.le_refl _) (by omega)) (Rt.s ?_)
      rw [← es] at Mb vb ⊢
      refine ⟨rfl, ?_⟩
      dsimp only
      have FF : Fr (fun r k => EW r k ∨ SB r k) a b := F2.tr (Fb.mono (fun r k z => Or.inl z))
      refine (I.mk' (W := fun r k => WH d.1 r k ∨ EW r k ∨ SB r k) ((F.mono (fun r k z => Or.inl z)).tr (FF.mono (fun r k z => Or.inr z))) (fun r k z => ?_) vb (Nat.le_refl _) (X.fr FF (fun r k z => ?_)) Mb).inv
      · rcases z with z | z | z
        · exact Or.inr (Or.inl z)
        · unfold EW at z
          by_cases e : r = 103
          · exact Or.inl (by unfold SCR; omega)
          · exact Or.inr (Or.inr (by unfold WM; omega))
        · exact Or.inl (SB_SCR d r k z)
      · unfold Hls at hd
        rcases z with z | z
        · unfold EW at z; omega
        · unfold SB SP at z; omega
end EVS
