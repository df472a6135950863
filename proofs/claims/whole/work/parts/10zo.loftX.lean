/-! the loft: the call -/
theorem two3 {x : Option (Int32 × PH × PD)} {y : PH → Option (Int32 × PH)} (h : Rt x (fun u => Rt (y u.2.1) (fun v => u.1 = v.1 ∧ Inv v.2 u.2.2))) : ∃ (u : Int32 × PH × PD) (v : Int32 × PH), x = some u ∧ y u.2.1 = some v ∧ u.1 = v.1 ∧ Inv v.2 u.2.2 := by
  obtain ⟨u, hu, v, hv, h1, h2⟩ := h
  exact ⟨u, v, hu, hv, h1, h2⟩
theorem ref6 (σ : PH) : f_X8_refuse σ (-6) = some (-6, putI σ 2 6 (gI σ 2 6 + 1)) := by
  unfold f_X8_refuse
  rw [if_neg (by decide), if_neg (by decide), chk_t (by decide), chk_t (by decide), bnd_d, show (-(-6 : Int32)).toNatClampNeg = 6 from by decide]
theorem no6 (σ : PH) : f_X9_no σ (-6) = some (-6, putI σ 82 6 (gI σ 82 6 + 1)) := by
  unfold f_X9_no
  rw [chk_t (by decide), chk_t (by decide), bnd_d, show (-(-6 : Int32)).toNatClampNeg = 6 from by decide]
def WLo (r k : Nat) : Prop := (5 ≤ r ∧ r ≤ 13) ∨ (30 ≤ r ∧ r ≤ 63) ∨ r = 2 ∨ r = 82 ∨ (r = 0 ∧ k = 10) ∨ (r = 81 ∧ (k ≤ 8 ∨ (25 ≤ k ∧ k ≤ 29) ∨ k = 34)) ∨ (83 ≤ r ∧ r ≤ 88) ∨ r = 97 ∨ r = 98 ∨ r = 100 ∨ r = 101
section LX
variable {c : CV} {r : Nat → Nat} {hs : HS} {tr : Nat} {sd : Int32} {σ : PH} {d : PD}
theorem ref3 (I : InA 0 c r hs tr sd σ d) {k : Nat} (h1 : 1 ≤ k) (h7 : k ≤ 7) {p : Int32} (hp : p = -nI k) {Y : PH → Option (Int32 × PH)} (hY : ∀ σ1, InA k c r hs tr sd σ1 d → Fr (fun r _ => r = 2) σ σ1 → Y σ1 = obd (f_X9_no σ1 p) (fun v => some (v.1, v.2))) : Rt (obd (f_X8_refuse σ p) (fun u => some (u.1, u.2, d))) (fun u => Rt (Y u.2.1) (fun v => u.1 = v.1 ∧ Inv v.2 u.2.2)) := by
  refine Rt.o (refuse_ok I h1 h7 hp) ?_
  rintro ⟨v, σ1⟩ ⟨e1, I1, F1⟩
  refine Rt.s ?_
  dsimp only at e1 I1 F1 ⊢
  rw [hY σ1 I1 F1]
  refine Rt.o (no_ok I1 h1 h7 hp) ?_
  rintro ⟨w, σ2⟩ ⟨e2, I2⟩
  exact Rt.s ⟨e1.trans e2.symm, I2.inv⟩
theorem InA.lo (I : InA 0 c r hs tr sd σ d) {σ' : PH} {d' : PD} {c' : CV} {r' : Nat → Nat} {hs' : HS} {tr' : Nat} {sd' : Int32} (f : Fr WLo σ σ') (hd : Hls d') (hR : ∀ k, 1 ≤ k → k ≤ 7 → gI σ' 2 k = gI σ' 82 k) (hF : gI σ' 0 10 = gI σ' 81 8) (v : HV c' r' hs') (hn : cN c ≤ cN c') (X : XH c' r' hs' tr' sd' σ' d'.1) (M : MHl c' r' hs' tr' sd' σ') : Inv σ' d' := by
  obtain ⟨⟨-, -, -, hV, hC, hI⟩, -, -, -, hS⟩ := I
  have N : ∀ r k, ((r = 0 ∧ k = 9) ∨ r = 3 ∨ r = 4 ∨ (14 ≤ r ∧ r ≤ 29) ∨ (r = 81 ∧ (k = 43 ∨ k = 44)) ∨ (64 ≤ r ∧ r ≤ 80) ∨ (89 ≤ r ∧ r ≤ 96) ∨ r = 99 ∨ r = 105) → ¬ WLo r k := fun r k z => by unfold WLo; omega
  refine ⟨c', r', hs', tr', sd', ⟨hd, fun k h1 h7 => ?_, hF, ⟨?_, fun i hi => ?_⟩, ⟨fun k hk => ?_, fun k hk => ?_⟩, hI.fr f (fun r k z hz => N r k (by omega) z)⟩, v, X, M, fun s hs => (hS s hs).fr hs hn f (fun r k z hz => N r k (by omega) z)⟩
  · rw [hR k h1 h7, if_neg (show ¬ k = 0 by omega), Int32.add_zero]
  · rw [f.I (N _ _ (by omega)), f.I (N _ _ (by omega))]; exact hV.1
  · rw [f.I (N _ _ (by omega)), f.I (N _ _ (by omega))]; exact hV.2 i hi
  · rw [f.I (N _ _ (by omega))]; exact hC.1 k hk
  · rw [f.I (N _ _ (by omega))]; exact hC.2 k hk
end LX
/-- the reference's call from the class's end -/
theorem loft_m {S0 : LST} {sd : Int32} {σ : PH} {s z : Nat} {T : Nat → Int32} {n : Nat} {ok : Bool} {e : Nat} {S' : LST} (hs8 : s < 8) (hT : TX σ s z T) (hC : cnst σ) (v : VS S0) (hM : MS S0 sd σ) (hn : n ≤ 160) (hL : Ln (sg T z) z n S0 0 ok e S') (P : (Int32 × PH) → Prop) (yes : ok = true → ∀ τ, MS S' sd τ → gI τ 81 8 = -1 → Fr WLo σ τ → (∀ k, gI τ 2 k = gI σ 2 k) → (∀ k, gI τ 82 k = gI σ 82 k) → (∀ r k, 30 ≤ r → r ≤ 63 → gI τ r k = gI σ r k ∧ gJ τ r k = gJ σ r k) → gI τ 0 10 = gI σ 0 10 → P (nI (n + 1), τ)) (no : ok = false → ∀ τ, MS S0 sd τ → gI τ 81 8 = nI e → Fr WLo σ τ → (∀ k, gI τ 2 k = gI σ 2 k) → (∀ k, gI τ 82 k = gI σ 82 k + (if k = 6 then 1 else 0)) → (∀ r k, 30 ≤ r → r ≤ 63 → gI τ r k = gI σ r k ∧ gJ τ r k = gJ σ r k) → gI τ 0 10 = gI σ 0 10 → P (-6, τ)) : Rt (f_X9_loft σ (nI s)) P := by
  have c8 := inb_nI (k := s) (N := 8) hs8 (by decide)
  have n8 := v.1.1
  have h16 := v.2.2.1
  unfold f_X9_loft
  rw [want1 hs8 hT.1, obd_s]
  refine Rt.t rfl (Rt.o (f9_all_s (A := 98) (Or.inl rfl) n8 h16 hM) ?_)
  rintro σ1 ⟨K1, F1⟩
  rw [bnd_d, bnd_d]
  refine Rt.c c8 ?_
  rw [bnd_d, bnd_d, nI_clamp (by omega), i_160, pk_mul]
  have F2 : Fr (fun r k => r = 81 ∧ (k = 25 ∨ k = 26 ∨ k = 27 ∨ k = 8)) σ1 (putI (putI (putI (putI σ1 81 25 (nI (160 * s))) 81 26 0) 81 27 (gI (putI (putI σ1 81 25 (nI (160 * s))) 81 26 0) 91 s)) 81 8 (-1)) := (((Fr.pI (by omega)).tr (Fr.pI (by omega))).tr (Fr.pI (by omega))).tr (Fr.pI (by omega))
  have q8 : gI (putI (putI (putI (putI σ1 81 25 (nI (160 * s))) 81 26 0) 81 27 (gI (putI (putI σ1 81 25 (nI (160 * s))) 81 26 0) 91 s)) 81 8 (-1)) 81 8 = -1 := gI_put_eq
  have q25 : gI (putI (putI (putI (putI σ1 81 25 (nI (160 * s))) 81 26 0) 81 27 (gI (putI (putI σ1 81 25 (nI (160 * s))) 81 26 0) 91 s)) 81 8 (-1)) 81 25 = nI (160 * s) := by
    rw [gI_put_ne (by omega), gI_put_ne (by omega), gI_put_ne (by omega), gI_put_eq]
  have q26 : gI (putI (putI (putI (putI σ1 81 25 (nI (160 * s))) 81 26 0) 81 27 (gI (putI (putI σ1 81 25 (nI (160 * s))) 81 26 0) 91 s)) 81 8 (-1)) 81 26 = nI 0 := by
    rw [gI_put_ne (by omega), gI_put_ne (by omega), gI_put_eq]; rfl
  have q27 : gI (putI (putI (putI (putI σ1 81 25 (nI (160 * s))) 81 26 0) 81 27 (gI (putI (putI σ1 81 25 (nI (160 * s))) 81 26 0) 91 s)) 81 8 (-1)) 81 27 = nI z := by
    rw [gI_put_ne (by omega), gI_put_eq, gI_put_ne (by omega), gI_put_ne (by omega), F1.I (by omega)]; exact hT.2.2.2.1
  generalize putI (putI (putI (putI σ1 81 25 (nI (160 * s))) 81 26 0) 81 27 (gI (putI (putI σ1 81 25 (nI (160 * s))) 81 26 0) 91 s)) 81 8 (-1) = σ2 at *
  have FA : Fr (fun r k => r = 98 ∨ (r = 81 ∧ (k = 25 ∨ k = 26 ∨ k = 27 ∨ k = 8))) σ σ2 := (F1.mono (fun r k z => Or.inl z)).tr (F2.mono (fun r k z => Or.inr z))
  have T2 : TX σ2 s z T := hT.fr hs8 FA (fun r k z => by omega)
  have C2 : cnst σ2 := ⟨fun k hk => by rw [FA.I (by omega)]; exact hC.1 k hk, fun k hk => by rw [FA.I (by omega)]; exact hC.2 k hk⟩
  have K2 : MK 98 S0.1 S0.2.1 S0.2.2.1 S0.2.2.2 sd σ2 := K1.fr F2 (fun k => by omega)
  have M2 : MS S0 sd σ2 := MHl.fr hM FA (fun r k z => by unfold WM; omega)
  have tW : ∀ r k, (W9 r k ∨ WM r k) → WLo r k ∧ ¬ (r = 2 ∨ r = 82 ∨ (30 ≤ r ∧ r ≤ 63) ∨ r = 0 ∨ (r = 81 ∧ k = 8) ∨ r = 98) := fun r k z => by unfold W9 WM at z; unfold WLo; omega
  have tA : Fr (fun r k => WLo r k ∧ ¬ (r = 2 ∨ r = 82 ∨ (30 ≤ r ∧ r ≤ 63) ∨ r = 0)) σ σ2 := FA.mono (fun r k z => by unfold WLo; omega)
  have tB : ∀ {τ : PH}, Fr (fun r k => W9 r k ∨ WM r k) σ2 τ → Fr (fun r k => WLo r k ∧ ¬ (r = 2 ∨ r = 82 ∨ (30 ≤ r ∧ r ≤ 63) ∨ r = 0)) σ τ := fun F => tA.tr (F.mono (fun r k z => ⟨(tW r k z).1, fun y => (tW r k z).2 (by omega)⟩))
  refine loft_9 (ok := ok) (e := e) (S' := S') hs8 T2 C2 P n FU S0 0 1 σ2 (Nat.le_trans (show n + 3 ≤ 163 by omega) (Nat.le_of_lt (FU_big (by decide)))) hL v M2 ⟨q25, q27, q26⟩ (by decide) Fr.rf (fun h τ h1 h2 => ?_) (fun h x τ h1 h2 => ?_)
  · have F := tB h2
    rw [Nat.add_comm 1 n]
    exact yes h τ h1 (by rw [h2.I (fun y => (tW _ _ y).2 (by omega))]; exact q8) (F.mono (fun r k z => z.1)) (fun k => F.I (fun y => y.2 (by omega))) (fun k => F.I (fun y => y.2 (by omega))) (fun r k h1 h2 => ⟨F.I (fun y => y.2 (by omega)), F.J (fun y => y.2 (by omega))⟩) (F.I (fun y => y.2 (by omega)))
  · have F := tB h2
    unfold j_X9_loft_133
    refine Rt.t rfl (Rt.o (f9_all_b (A := 98) (Or.inl rfl) n8 h16 (K2.fr h2 (fun k y => (tW _ _ y).2 (by omega)))) ?_)
    rintro σ3 ⟨M3, F3⟩
    have FB : Fr (fun r k => WLo r k ∧ ¬ (r = 2 ∨ r = 82 ∨ (30 ≤ r ∧ r ≤ 63) ∨ r = 0)) σ σ3 := F.tr (F3.mono (fun r k z => by unfold WM at z; unfold WLo; omega))
    rw [bnd_d, no6, obd_s, F3.I (by unfold WM; omega), h1]
    have F4 : Fr (fun r k => (r = 81 ∧ k = 8) ∨ r = 82) σ3 (putI (putI σ3 81 8 (nI e)) 82 6 (gI (putI σ3 81 8 (nI e)) 82 6 + 1)) := (Fr.pI (by omega)).tr (Fr.pI (by omega))
    have g8 : gI (putI (putI σ3 81 8 (nI e)) 82 6 (gI (putI σ3 81 8 (nI e)) 82 6 + 1)) 81 8 = nI e := by
      rw [gI_put_ne (by omega), gI_put_eq]
    have g82 : ∀ k, gI (putI (putI σ3 81 8 (nI e)) 82 6 (gI (putI σ3 81 8 (nI e)) 82 6 + 1)) 82 k = gI σ 82 k + (if k = 6 then 1 else 0) := fun k => by
      by_cases y : k = 6
      · subst y
        rw [gI_put_eq, gI_put_ne (by omega), if_pos rfl, FB.I (fun y => y.2 (by omega))]
      · rw [gI_put_ne (Or.inr y), gI_put_ne (by omega), if_neg y, Int32.add_zero, FB.I (fun y => y.2 (by omega))]
    generalize putI (putI σ3 81 8 (nI e)) 82 6 (gI (putI σ3 81 8 (nI e)) 82 6 + 1) = σ4 at *
    exact Rt.s (no h σ4 (MHl.fr M3 F4 (fun r k z => by unfold WM; omega)) g8 ((FB.mono (fun r k z => z.1)).tr (F4.mono (fun r k z => by unfold WLo; omega))) (fun k => by rw [F4.I (by omega)]; exact FB.I (fun y => y.2 (by omega))) g82 (fun r k h1 h2 => ⟨by rw [F4.I (by omega)]; exact FB.I (fun y => y.2 (by omega)), by rw [F4.J (by omega)]; exact FB.J (fun y => y.2 (by omega))⟩) (by rw [F4.I (by omega)]; exact FB.I (fun y => y.2 (by omega))))
theorem st_loft (σ : PH) (d : PD) (p1 : Int32) (hI : Inv σ d) : ∃ (u : Int32 × PH × PD) (v : Int32 × PH), f_X8_loft σ d p1 = some u ∧ f_X9_loft u.2.1 p1 = some v ∧ u.1 = v.1 ∧ Inv v.2 u.2.2 := by
  obtain ⟨c, r, hs, tr, sd, I⟩ := hI
  have hd := I.1.1
  refine two3 (y := fun s => f_X9_loft s p1) ?_
  unfold f_X8_loft
  rcases shelf_i p1 with ⟨e1, e2, -⟩ | ⟨s, hs8, rfl, e1, e2⟩
  · rw [lackN e1, obd_s]
    refine Rt.f (by decide) (ref3 I (k := 1) (by decide) (by decide) (by decide) (Y := fun s => f_X9_loft s p1) (fun σ1 _ _ => ?_))
    unfold f_X9_loft
    rw [wantN e2, obd_s, if_neg (by decide)]
  · have c8 := inb_nI (k := s) (N := 8) hs8 (by decide)
    have hd2 : d.2.1 = 30 ∨ d.2.1 = 47 := by unfold Hls at hd; omega
    rcases I.2.2.2.2 s hs8 with ⟨h0, h1⟩ | ⟨h0, o, z, ho, hz, h2, h3, h4, h5, h6⟩ | ⟨h0, x, hx, h1, h2⟩
    · rw [lack0 hs8 h1, obd_s]
      refine Rt.f (by decide) (ref3 I (k := 3) (by decide) (by decide) (by decide) (Y := fun s' => f_X9_loft s' (nI s)) (fun σ1 _ F => ?_))
      unfold f_X9_loft
      rw [want0 hs8 (by rw [F.I (by omega)]; exact h0), obd_s, if_neg (by decide)]
    · rw [lack1 hs8 ho h4, obd_s]
      refine Rt.t rfl ?_
      rw [bnd_d]
      refine Rt.c c8 ?_
      rw [bnd_d, cl8 hs8]
      have hT : TX σ s z (fun i => (gJ σ (15 + 2 * s) i).toInt32) := ⟨h0, hz, ⟨o, ho, h4⟩, h3, h5, fun i hi => ⟨rfl, by rw [← h6 i hi]⟩⟩
      generalize (fun i => (gJ σ (15 + 2 * s) i).toInt32) = T at hT
      obtain ⟨X1, F1⟩ := f2_copyOf (h := d.2.1) (h2 := d.1) (by unfold Hls at hd; omega) I.2.1 I.2.2.1
      generalize f_X2_copyOf σ d.2.1 d.1 = σ1 at *
      unfold f_X3_begin
      rw [bnd_d, bnd_d, bnd_d]
      have F2 : Fr (fun r k => r = 5) σ1 (putI (putI σ1 5 2 0) 5 3 (-1)) := (Fr.pI (W := fun r _ => r = 5) rfl).tr (Fr.pI rfl)
      have g3 : gI (putI (putI σ1 5 2 0) 5 3 (-1)) 5 3 = -1 := gI_put_eq
      have g2 : gI (putI (putI σ1 5 2 0) 5 3 (-1)) 5 2 = nI 0 := by
        rw [gI_put_ne (by omega), gI_put_eq]; rfl
      generalize putI (putI σ1 5 2 0) 5 3 (-1) = σ2 at *
      have FA : Fr (W56 d.2.1) σ σ2 := (F1.mono (fun r k z => Or.inr (Or.inr z))).tr (F2.mono (fun r k z => Or.inl z))
      have wA : ∀ r k, W56 d.2.1 r k → ¬ ((14 ≤ r ∧ r ≤ 29) ∨ (64 ≤ r) ∨ r ≤ 4 ∨ (d.1 ≤ r ∧ r ≤ d.1 + 16)) ∧ WLo r k := fun r k z => by
        unfold W56 WH at z; unfold Hls at hd; unfold WLo; omega
      have T2 : TX σ2 s z T := hT.fr hs8 FA (fun r k z y => (wA r k z).1 (by omega))
      have X2 : XS (c, r, hs, tr) sd σ2 d.2.1 := XH.fr X1 F2 (fun r k z => by omega)
      have Cf : ∀ {σ' : PH} {W : Nat → Nat → Prop}, Fr W σ σ' → (∀ k, ¬ W 95 k ∧ ¬ W 96 k) → cnst σ' := fun F hW => ⟨fun k hk => by rw [F.I (hW k).1]; exact I.1.2.2.2.2.1.1 k hk, fun k hk => by rw [F.I (hW k).2]; exact I.1.2.2.2.2.1.2 k hk⟩
      have hR : ∀ k, 1 ≤ k → k ≤ 7 → gI σ 2 k = gI σ 82 k := fun k k1 k7 => by
        have := I.1.2.1 k k1 k7
        rw [if_neg (by omega), Int32.add_zero] at this
        exact this
      refine loft_8 (S0 := (c, r, hs, tr)) hs8 hd2 T2 I.2.1 X2 g2 g3 _ (fun n S' e τ hL v' hn X' g F hn160 => ?_) (fun n S' e x τ hL g he F hn160 => ?_)
      · have F' : Fr (W56 d.2.1) σ τ := FA.tr F
        unfold j_X8_loft_94
        rw [bnd_d, g]
        refine Rt.t gI_put_eq (Rt.s ?_)
        dsimp only
        have F3 : Fr (fun r k => r = 0 ∧ k = 10) τ (putI τ 0 10 (-1)) := Fr.pI ⟨rfl, rfl⟩
        have g10 : gI (putI τ 0 10 (-1)) 0 10 = -1 := gI_put_eq
        generalize putI τ 0 10 (-1) = τ1 at *
        have FB : Fr (fun r k => W56 d.2.1 r k ∨ (r = 0 ∧ k = 10)) σ τ1 := (F'.mono (fun r k z => Or.inl z)).tr (F3.mono (fun r k z => Or.inr z))
        have wB : ∀ r k, (W56 d.2.1 r k ∨ (r = 0 ∧ k = 10)) → ¬ ((14 ≤ r ∧ r ≤ 29) ∨ (64 ≤ r) ∨ r = 2) ∧ WLo r k := fun r k z => by
          rcases z with z | z
          · exact ⟨fun y => (wA r k z).1 (by omega), (wA r k z).2⟩
          · unfold WLo; omega
        refine loft_m (S0 := (c, r, hs, tr)) (sd := sd) (n := n) (ok := true) (e := e) (S' := S') hs8 (hT.fr hs8 FB (fun r k z y => (wB r k z).1 (by omega))) (Cf FB (fun k => ⟨fun y => (wB _ _ y).1 (by omega), fun y => (wB _ _ y).1 (by omega)⟩)) I.2.1 (MHl.fr I.2.2.2.1 FB (fun r k z y => (wB r k z).1 (by unfold WM at y; omega))) hn160 hL _ (fun _ τ2 M2 q8 FC q2 q82 qh q0 => ⟨rfl, ?_⟩) (fun h => absurd h (by decide))
        refine I.lo (c' := S'.1) (r' := S'.2.1) (hs' := S'.2.2.1) (tr' := S'.2.2.2) (sd' := sd) ((FB.mono (fun r k z => (wB r k z).2)).tr FC) (d' := (d.2.1, d.1, some (14 + 2 * s))) ?_ (fun k k1 k7 => ?_) ?_ v' hn ?_ M2
        · unfold Hls at hd ⊢
          dsimp only
          omega
        · rw [q2 k, q82 k, FB.I (fun y => (wB _ _ y).1 (by omega)), FB.I (fun y => (wB _ _ y).1 (by omega))]
          exact hR k k1 k7
        · rw [q0, q8]; exact g10
        · have X3 : XS S' sd τ1 d.2.1 := XH.fr X' F3 (fun r k z => by omega)
          have Fh : Fr (fun r k => ¬ (30 ≤ r ∧ r ≤ 63)) τ1 τ2 := fun r k hn => by
            have : 30 ≤ r ∧ r ≤ 63 := Classical.byContradiction hn
            exact qh r k this.1 this.2
          exact XH.fr X3 Fh (fun r k z => by omega)
      · have F' : Fr (W56 d.2.1) σ τ := FA.tr F
        unfold j_X8_loft_94
        rw [bnd_d, g]
        refine Rt.f (by rw [gI_put_eq]; exact nI_nm1 (by omega)) ?_
        rw [ref6, obd_s]
        refine Rt.s ?_
        dsimp only
        have F3 : Fr (fun r k => (r = 0 ∧ k = 10) ∨ r = 2) τ (putI (putI τ 0 10 (nI e)) 2 6 (gI (putI τ 0 10 (nI e)) 2 6 + 1)) := (Fr.pI (by omega)).tr (Fr.pI (by omega))
        have g10 : gI (putI (putI τ 0 10 (nI e)) 2 6 (gI (putI τ 0 10 (nI e)) 2 6 + 1)) 0 10 = nI e := by
          rw [gI_put_ne (by omega), gI_put_eq]
        have gr : ∀ k, gI (putI (putI τ 0 10 (nI e)) 2 6 (gI (putI τ 0 10 (nI e)) 2 6 + 1)) 2 k = gI σ 2 k + (if k = 6 then 1 else 0) := fun k => by
          have e2 : ∀ k, gI τ 2 k = gI σ 2 k := fun k => F'.I (fun y => (wA _ _ y).1 (by omega))
          by_cases y : k = 6
          · subst y
            rw [gI_put_eq, gI_put_ne (by omega), if_pos rfl, e2]
          · rw [gI_put_ne (Or.inr y), gI_put_ne (by omega), if_neg y, Int32.add_zero, e2]
        generalize putI (putI τ 0 10 (nI e)) 2 6 (gI (putI τ 0 10 (nI e)) 2 6 + 1) = τ1 at *
        have FB : Fr (fun r k => W56 d.2.1 r k ∨ ((r = 0 ∧ k = 10) ∨ r = 2)) σ τ1 := (F'.mono (fun r k z => Or.inl z)).tr (F3.mono (fun r k z => Or.inr z))
        have wB : ∀ r k, (W56 d.2.1 r k ∨ ((r = 0 ∧ k = 10) ∨ r = 2)) → ¬ ((14 ≤ r ∧ r ≤ 29) ∨ (64 ≤ r) ∨ (d.1 ≤ r ∧ r ≤ d.1 + 16)) ∧ WLo r k := fun r k z => by
          rcases z with z | z
          · exact ⟨fun y => (wA r k z).1 (by omega), (wA r k z).2⟩
          · unfold WLo; unfold Hls at hd; omega
        refine loft_m (S0 := (c, r, hs, tr)) (sd := sd) (n := n) (ok := false) (e := e) (S' := S') hs8 (hT.fr hs8 FB (fun r k z y => (wB r k z).1 (by omega))) (Cf FB (fun k => ⟨fun y => (wB _ _ y).1 (by omega), fun y => (wB _ _ y).1 (by omega)⟩)) I.2.1 (MHl.fr I.2.2.2.1 FB (fun r k z y => (wB r k z).1 (by unfold WM at y; omega))) hn160 hL _ (fun h => absurd h (by decide)) (fun _ τ2 M2 q8 FC q2 q82 qh q0 => ⟨rfl, ?_⟩)
        refine I.lo (c' := c) (r' := r) (hs' := hs) (tr' := tr) (sd' := sd) ((FB.mono (fun r k z => (wB r k z).2)).tr FC) (d' := (d.1, d.2.1, some (14 + 2 * s))) ?_ (fun k k1 k7 => ?_) ?_ I.2.1 (Nat.le_refl _) ?_ M2
        · unfold Hls at hd ⊢
          dsimp only
          omega
        · rw [q2 k, q82 k, gr, FB.I (fun y => (wB _ _ y).1 (by omega)), hR k k1 k7]
        · rw [q0, q8]; exact g10
        · have X3 : XH c r hs tr sd τ1 d.1 := I.2.2.1.fr FB (fun r k z y => (wB r k z).1 (by omega))
          have Fh : Fr (fun r k => ¬ (30 ≤ r ∧ r ≤ 63)) τ1 τ2 := fun r k hn => by
            have : 30 ≤ r ∧ r ≤ 63 := Classical.byContradiction hn
            exact qh r k this.1 this.2
          exact XH.fr X3 Fh (fun r k z => by unfold Hls at hd; dsimp only at *; omega)
    · have hx0 := I.n8
      rw [lack2 hs8 (by omega) h2, obd_s]
      refine Rt.f (by decide) (ref3 I (k := 2) (by decide) (by decide) (by decide) (Y := fun s' => f_X9_loft s' (nI s)) (fun σ1 _ F => ?_))
      unfold f_X9_loft
      rw [want2 hs8 (by rw [F.I (by omega)]; exact h0), obd_s, if_neg (by decide)]
