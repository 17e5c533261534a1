/-! ===== what holds at the first call ===== -/
theorem zB_same {V : zV} {r : Nat} {f : Nat → Int64} : zB (zsB V r f) r = f := if_pos rfl
theorem o_words : r_cw zG1 := by
  have h : ∀ k : Fin 27, ∀ w : List Nat, r_words[k.1]? = some w → zWordsF k.1 = lN (r_pk 256 id 0 w) := by
    have h2 : ∀ k : Fin 27, zWordsF k.1 = lN (r_pk 256 id 0 (r_words[k.1]?.getD [])) := by decide +kernel
    intro k w hw
    rw [h2 k, hw]; rfl
  intro k w hw
  have hk : k < 27 := (List.getElem?_eq_some_iff.mp hw).1
  unfold zG1
  rw [zB_same]
  exact h ⟨k, hk⟩ w hw
theorem o_mwords : r_mw zG7 := by
  have h : ∀ k : Fin 27, ∀ w : List Nat, r_mwords[k.1]? = some w → zWordsM k.1 = lN (r_pk 37 r_d37 0 w) := by
    have h2 : ∀ k : Fin 27, zWordsM k.1 = lN (r_pk 37 r_d37 0 (r_mwords[k.1]?.getD [])) := by decide +kernel
    intro k w hw
    rw [h2 k, hw]; rfl
  intro k w hw
  have hk : k < 27 := (List.getElem?_eq_some_iff.mp hw).1
  unfold zG7
  rw [zB_same]
  exact h ⟨k, hk⟩ w hw
theorem o_first : o_inv 0 zG0 zG1 zG4 zG5 zG6 zG7 := by
  refine ⟨0, 0, by omega, rfl, o_words, o_mwords, ⟨by omega, rfl, rfl, fun i hi => absurd hi (Nat.not_lt_zero i)⟩, rfl, ⟨⟨0, by omega, rfl⟩, ?_⟩, ⟨⟨0, by omega, rfl⟩, ⟨0, [], Nat.le_refl _, ?_⟩, rfl, fun l hl => rfl⟩, Or.inl ⟨⟨rfl, rfl, rfl, rfl⟩, fun k hk => rfl, rfl⟩⟩
  · exact ⟨by unfold y_PP; decide, rfl, rfl, rfl⟩
  · exact ⟨by unfold y_PP; decide, by decide, ⟨rfl, rfl, rfl⟩, rfl, rfl, fun i c h => (by cases h), fun c hc => ⟨0, Nat.le_refl _, rfl⟩⟩
theorem o_law {L : Nat} {xs : Nat → Int32} (hL : L ≤ 3072) : ∃ W0 W1 W2 W3 W4 W5 W6 W7, fL_law_l18 10000 L xs 513 zG0 zG1 z0 z0 zG4 zG5 zG6 zG7 0 = some (1, W0, W1, W2, W3, W4, W5, W6, W7) :=
  law_l18 (by omega) hL 513 0 zG0 zG1 z0 z0 zG4 zG5 zG6 zG7 (by omega) (by omega) o_first
/-! ===== the law's body, from its entry ===== -/
theorem zLaw {w : zW} (hL : w.2.2.2.2.1 ≤ 3072) : ∃ S', zR w kL_law 27 155 113080 (some (.int 1)) S' 0 [(0, .ref w.2.2.2.1)] [] [] := by
  obtain ⟨W0, W1, W2, W3, W4, W5, W6, W7, h⟩ := o_law (xs := w.2.2.2.2.2) hL
  have hw := wL_law_l18 (w := w) 10000 513 zG0 zG1 z0 z0 zG4 zG5 zG6 zG7 0 _ h
  have c11 : zMet w kX11_init 5 87 12616 [.ref (w.1 + 0)] [.inr (11, [.null, .int 0, .null, .null, .null, .int 0, .null, .int 0, .null, .int 0, .null, .null, .int 0, .null])] none (zK11 w) := iX11_init_0 [] rfl
  have c12 := iX12_init_88 (w := w) 10000 (zK11 w) rfl
  rw [zStore] at c12
  refine ⟨zE zds w [W0, W1, W2, W3, W4, W5, W6, W7], ?_⟩
  refine zR_new (S := []) (ci := 11) (N := 14) (C := RX11) (T := TX11) dL_law_0 rfl tyX11 tyX11_ok zb_X11 zin_X11 zn_L_7.1 zn_L_7.2.1 zn_L_7.2.2 (Nat.le_of_ble_eq_true rfl) (Nat.le_of_ble_eq_true rfl) ?_
  refine zR_dup dL_law_3 rfl ?_
  refine zR_callI (i := 0) (As := []) (rest := [.ref (w.1 + 0)]) dL_law_4 c11 zci_L_9 rfl rfl (Nat.le_of_ble_eq_true rfl) (Nat.le_of_ble_eq_true rfl) (Nat.le_of_ble_eq_true rfl) (Nat.le_of_ble_eq_true rfl) ?_
  refine zR_astore_n (lv' := [(0, .ref w.2.2.2.1), (1, .ref (w.1 + 0))]) dL_law_7 (Nat.le_of_ble_eq_true rfl) rfl ?_
  refine zR_new (S := zK11 w) (ci := 12) (N := 103) (C := RX12) (T := TX12) dL_law_8 rfl tyX12 tyX12_ok zb_X12 zin_X12 zn_L_10.1 zn_L_10.2.1 zn_L_10.2.2 (Nat.le_of_ble_eq_true rfl) (Nat.le_of_ble_eq_true rfl) ?_
  refine zR_dup dL_law_11 rfl ?_
  refine zR_callI (i := 88) (As := []) (rest := [.ref (w.1 + 88)]) dL_law_12 c12 zci_L_12 rfl rfl (Nat.le_of_ble_eq_true rfl) (Nat.le_of_ble_eq_true rfl) (Nat.le_of_ble_eq_true rfl) (Nat.le_of_ble_eq_true rfl) ?_
  refine zR_astore_n (lv' := [(0, .ref w.2.2.2.1), (1, .ref (w.1 + 0)), (2, .ref (w.1 + 88))]) dL_law_15 (Nat.le_of_ble_eq_true rfl) rfl ?_
  refine zR_iconst (x := (0 : Int32)) dL_law_16 rfl ?_
  refine zR_istore_n (lv' := [(0, .ref w.2.2.2.1), (1, .ref (w.1 + 0)), (2, .ref (w.1 + 88)), (3, .int 0)]) dL_law_17 (Nat.le_of_ble_eq_true rfl) rfl ?_
  exact hw
