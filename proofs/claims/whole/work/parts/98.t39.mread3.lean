/-! ===== the reference's read, put together ===== -/
section
variable {F : Nat} {b : Nat → Nat} {L M sd : Nat} {V : zV}
theorem r_tb_32 {E cc : Nat} {V' : zV} (h : r_tb b L sd E cc V) (hr : ∀ r, ¬ r = 32 → zA V' r = zA V r) (h32 : ∀ m, m < E → (r_tK b L m = 17 ∨ r_tK b L m = 20) → zA V' 32 (1000 * sd + r_na (r_tK b L) m) = zA V 32 (1000 * sd + r_na (r_tK b L) m)) (hcc : cc ≤ 1200) (hsd : sd ≤ 1) : r_tb b L sd E cc V' := by
  obtain ⟨⟨t1, t2⟩, t3, t4, t5, t6⟩ := h
  refine ⟨⟨fun k hk => by rw [hr 8 (by decide)]; exact t1 k hk, by rw [hr 8 (by decide)]; exact t2⟩, fun r h1 h2 j hj hk => by rw [hr r (by omega)]; exact t3 r h1 h2 j hj hk, fun j hj hk => by rw [hr 23 (by decide)]; exact t4 j hj hk, fun j hj hk => ?_, fun z => by rw [hr 25 (by decide), hr 26 (by decide)]; exact t6 z⟩
  obtain ⟨c, s, sh, hs, g1, ⟨g2, g3⟩, ⟨g4, g5⟩, g6, g7, ⟨g8, g9⟩⟩ := t5 j hj hk
  refine ⟨c, s, sh, hs, by rw [hr 24 (by decide)]; exact g1, by rw [hr 25 (by decide)]; exact ⟨g2, g3⟩, by rw [hr 26 (by decide)]; exact ⟨g4, g5⟩, fun q => r_cs_same (g6 q) (r_nr_mono (by have := sh.2.2.2.1; have := sh.2.2.2.2.1; omega)) (fun r hr' k _ => by rw [hr r (by omega)]) (fun k _ => by rw [hr 37 (by decide), hr 38 (by decide)]; exact ⟨rfl, rfl⟩) hsd hcc, g7, fun m m1 m2 m3 => ?_, fun m m1 m2 m3 => by rw [hr 35 (by decide), hr 36 (by decide)]; exact g9 m m1 m2 m3⟩
  obtain ⟨e, e1, e2, e3, f1, f2, f3, f4⟩ := g8 m m1 m2 m3
  refine ⟨e, e1, e2, e3, by rw [hr 31 (by decide)]; exact f1, fun q => (h32 m (by omega) (Or.inl q)).trans (f2 q), fun q => (h32 m (by omega) (Or.inr q)).trans (f3 q), fun q => ?_⟩
  obtain ⟨lo, hi, i1, i2, i3, i4, i5, i6⟩ := f4 q
  refine ⟨lo, hi, i1, i2, i3, by rw [hr 33 (by decide)]; exact i4, by rw [hr 34 (by decide)]; exact i5, fun E T hT hE hfol vars left ip => ?_⟩
  obtain ⟨v, v1, v2⟩ := i6 E T hT hE hfol vars left ip
  exact ⟨v, v1, by rw [← v2]; exact r_mE_same fun k _ => by rw [hr 37 (by decide), hr 38 (by decide)]; exact ⟨rfl, rfl⟩⟩
/-- what a good read leaves -/
def r_done (b : Nat → Nat) (L sd E cc : Nat) (V : zV) : Prop := r_tb b L sd E cc V ∧ r_hd b L sd E V ∧ (∀ m, m < E → r_tK b L m = 18 → zA V 32 (1000 * sd + r_na (r_tK b L) m) = nI (r_nu b L E (m + 1))) ∧
  cc ≤ E ∧ (∀ k, k ≤ 7 → r_cn (r_tK b L) k E ≤ r_max k) ∧ r_cn (r_tK b L) 11 E ≤ 80 ∧ 3 * r_nr (r_tK b L) E ≤ E
theorem m_read (hF : 4200 ≤ F) {lv : Nat} (hlv : lv ≤ 1) (h18 : zI V 0 18 = nI lv) (hw : r_mw V) (ht : r_tp b L V) :
    ∃ V' x, fX12_read F V = some (x, V') ∧ r_ans b L x (zI V' 0 17) ∧ zI V' 0 2 = 0 ∧ r_fz (1 - lv) V V' ∧ (¬ x = 0 → ∀ k, (k = 18 ∨ k = 20 ∨ k = 64) → zI V' 0 k = zI V 0 k) ∧
      (x = 0 → (zI V' 0 18 = nI (1 - lv) ∧ zI V' 0 20 = 1 ∧ zI V' 0 64 = 0) ∧ ∃ E cc, r_gram (r_tK b L) = .ok E ∧ r_done b L (1 - lv) E cc V') := by
  have hL := ht.1
  generalize hsd' : 1 - lv = sd
  have hsd : sd ≤ 1 := by omega
  unfold fX12_read
  rw [y_let, ht.2.2.1]
  obtain ⟨V2, a1, a2, a3⟩ := m_l10 (F := F) ht L F 0 (zsI V 0 4 (nI L)) (by omega) (by omega) rfl ht.2.2.2 fun i hi => by omega
  have a1 : fX12_read_l10 F F (zsI V 0 4 (nI L)) 0 = _ := a1
  rw [a1]
  clear a1
  generalize hV3 : zsI V2 0 2 0 = V3
  have z3 : ∀ k, ¬ k = 2 → ¬ k = 4 → zI V3 0 k = zI V 0 k := fun k h1 h2 => by
    rw [← hV3, y_get.1, if_neg (fun z => h1 z.2), a2.1, y_get.1, if_neg (fun z => h2 z.2)]
  have mb : r_mb b L V3 := ⟨hL, ht.2.1, by rw [← hV3, y_get.1, if_neg (by decide), a2.1]; rfl, by rw [← hV3]; exact a3⟩
  have mw : r_mw V3 := fun k w hk => by
    rw [← hV3]
    show zB V2 7 k = _
    rw [a2.2.2.1]; exact hw k w hk
  have f3 : r_fz sd V V3 := by
    rw [← hV3]
    refine r_fz_I ⟨fun r k m => ?_, fun r m n => ?_, fun r _ _ => a2.2.2.1 r, a2.2.2.2, fun r hr i _ => ?_⟩ (by decide)
    · rw [a2.1, y_get.1, if_neg (fun z => m ⟨z.1, by rw [z.2]; decide⟩)]
    · rw [a2.2.1 r (fun z => n (by rw [z]; decide))]; rfl
    · rw [a2.2.1 r (fun z => absurd hr (by rw [z]; decide))]; rfl
  have z32 : zI V3 0 2 = 0 := by rw [← hV3]; rfl
  obtain ⟨V4, M, d1, d2, d3, d4⟩ := m_cut (F := F) (by omega) mb mw
  rw [d1, y_bd]
  have f4 : r_fz sd V V4 := r_fz_trans f3 (r_fz_fq d4)
  have z4 : ∀ k, ¬ k = 10 → zI V4 0 k = zI V3 0 k := fun k hk => d4.1 0 k fun z => hk (by
    have := List.mem_singleton.mp z
    exact congrArg Prod.snd this)
  have h1 : ∀ x y z u : Int32, (1 : Int32) - zI (zsI (zsI (zsI (zsI V4 0 11 x) 0 12 y) 0 13 z) 0 15 u) 0 18 = nI sd := fun x y z u => by
    have : zI (zsI (zsI (zsI (zsI V4 0 11 x) 0 12 y) 0 13 z) 0 15 u) 0 18 = zI V4 0 18 := rfl
    rw [this, z4 18 (by decide), z3 18 (by decide) (by decide), h18, show (1 : Int32) = nI 1 from rfl, pk_sub hlv, hsd']
  simp only [y_let, h1]
  generalize hV5 : zsI (zsI (zsI (zsI (zsI V4 0 11 0) 0 12 0) 0 13 0) 0 15 0) 0 19 (nI sd) = V5
  have e5 : zI V5 0 11 = 0 ∧ zI V5 0 12 = 0 ∧ zI V5 0 13 = 0 ∧ zI V5 0 15 = 0 ∧ zI V5 0 19 = nI sd := by rw [← hV5]; exact ⟨rfl, rfl, rfl, rfl, rfl⟩
  have z5 : ∀ k, k ∉ [11, 12, 13, 15, 19] → zI V5 0 k = zI V4 0 k := fun k hk => by
    have hk : ¬ k = 11 ∧ ¬ k = 12 ∧ ¬ k = 13 ∧ ¬ k = 15 ∧ ¬ k = 19 := by simpa using hk
    rw [← hV5, y_get.1, if_neg (by omega), y_get.1, if_neg (by omega), y_get.1, if_neg (by omega), y_get.1, if_neg (by omega), y_get.1, if_neg (by omega)]
  have f5 : r_fz sd V V5 := by
    rw [← hV5]
    exact r_fz_I (r_fz_I (r_fz_I (r_fz_I (r_fz_I f4 (by decide)) (by decide)) (by decide)) (by decide)) (by decide)
  have r5 : (∀ r, zA V5 r = zA V4 r) ∧ ∀ r, zB V5 r = zB V4 r := by rw [← hV5]; exact ⟨fun _ => rfl, fun _ => rfl⟩
  obtain ⟨V6, g1, g2, ⟨g22, g41, g46, g54, g51⟩, g4, g5, g6, g7⟩ := m_l77 (F := F) (sd := sd) 9 F 0 V5 rfl (by omega) e5.2.2.2.2 hsd fun w hw => by omega
  have g1 : fX12_read_l77 F F V5 0 = _ := g1
  rw [g1]
  have rs : r_rs b L M sd 0 0 V6 := by
    refine ⟨⟨⟨⟨(g4 10 (by decide)).trans ((z5 10 (by decide)).trans d2.1), fun j hj => ?_⟩, d3⟩, ⟨(g4 11 (by decide)).trans e5.1, (g4 13 (by decide)).trans e5.2.2.1, by omega, fun j hj => by omega⟩, ⟨(g4 19 (by decide)).trans e5.2.2.2.2, hsd⟩, ⟨g22, Nat.zero_le _, fun k e he => by cases he⟩, Or.inl ⟨(g4 15 (by decide)).trans e5.2.2.2.1, fun j k z => by have := z.1; omega⟩⟩, (g4 12 (by decide)).trans e5.2.1, ⟨g41, g46, g51, g54⟩, Nat.le_refl _, Nat.le_refl _, ⟨⟨fun k hk => g7 k (by omega), g7 8 (by decide)⟩, fun r _ _ j hj => by omega, fun j hj => by omega, fun j hj => by omega, fun z => absurd z (Nat.lt_irrefl 0)⟩, fun k hk => Nat.zero_le _, Nat.zero_le _⟩
    rw [g5 3 (by decide), g5 4 (by decide), g5 5 (by decide), g6 6, r5.1, r5.1, r5.1, r5.2]
    exact d2.2 j hj
  have f6 : r_fz sd V V6 := r_fz_trans f5 (r_fz_fx g2)
  have z6 : ∀ k, (k = 2 ∨ k = 18 ∨ k = 20 ∨ k = 64) → zI V6 0 k = zI V3 0 k := fun k hk => by
    have hs : ∀ k, (k = 2 ∨ k = 18 ∨ k = 20 ∨ k = 64) → k ∉ [22, 41, 46, 51, 54] ∧ k ∉ [11, 12, 13, 15, 19] := by
      rintro k (rfl | rfl | rfl | rfl) <;> decide
    rw [g4 k (hs k hk).1, z5 k (hs k hk).2, z4 k (by omega)]
  obtain ⟨V7, l1, l2⟩ := m_l150 (F := F) (by omega) hL 1001 F 0 0 V6 (by omega) (by omega) rs rfl
  rw [l1]
  have hg : r_b (r_parts (r_tK b L) 1001 0) (r_modes (r_tK b L) 1001) = r_gram (r_tK b L) := rfl
  rw [hg] at l2
  unfold r_ans
  cases hgr : r_gram (r_tK b L) with
  | error e =>
    rw [hgr] at l2
    obtain ⟨hf, hx, e13, e14, e11⟩ := l2
    have mf : r_mf sd V7 := r_me_mf (b := b) (L := L) (f := e.1) (j := e.2) ⟨hf, hx, e13, e14, e11⟩ rs.1.2.2.1
    have ne := r_mf_ne mf
    have g13 : ∀ x, zI (zsI V7 0 17 x) 0 13 = nI e.1 := fun _ => e13
    have ne2 : ¬ nI e.1 = 0 ∧ ¬ nI e.1 ≤ 0 := by rw [← e13]; exact ⟨ne.2, ne.1⟩
    rw [fX12_read_b228, if_neg ne.2, fX12_read_b274, if_neg ne.1, fX12_read_b304, y_let, g13, if_neg ne2.2]
    have z7 : ∀ x k, (k = 2 ∨ k = 18 ∨ k = 20 ∨ k = 64) → zI (zsI V7 0 17 x) 0 k = zI V3 0 k := fun x k hk => by
      rw [y_get.1, if_neg (by omega), hx.1 0 k (by rintro ⟨-, z⟩; revert z; rcases hk with rfl | rfl | rfl | rfl <;> decide), z6 k hk]
    refine ⟨_, _, rfl, ⟨rfl, e14⟩, (z7 _ 2 (Or.inl rfl)).trans z32, r_fz_I (r_fz_trans f6 (r_fz_fx hx)) (by decide), fun _ k hk => (z7 _ k (Or.inr hk)).trans (z3 k (by omega) (by omega)), fun z => absurd z ne2.1⟩
  | ok E =>
    rw [hgr] at l2
    obtain ⟨⟨cc, rs7⟩, fx7, hd7⟩ := l2
    have h7 := rs7.1
    obtain ⟨-, -, hkt, hcc, hnr, htb, hcn, h80⟩ := id rs7
    have hE := (r_ms_lt h7).2.1
    have m0 : r_ms b L M sd E (r_tl b L E) (r_sP b L E 0) V7 := ⟨h7.1, h7.2.1, h7.2.2.1, h7.2.2.2.1, r_ws_iff h7.2.2.2.2 fun j k => ⟨Or.inl, fun z => z.elim id fun z => by
      obtain ⟨⟨m, y1, y2, y3, -⟩, -⟩ := z
      exact absurd y3 (Nat.not_lt_zero _)⟩⟩
    obtain ⟨V8, n1, n2, n3, n4, n5, n6, n7, n8⟩ := m_l237 (F := F) (by omega) hL hgr rfl (r_cn (r_tK b L) 18 E) F 0 V7 (by omega) (by have := r_cn_le (K := r_tK b L) (w := 18) E; omega) m0 hkt.2.2.1 (r_tb_sr hgr htb)
    have n1 : fX12_read_l237 F F V7 0 = _ := n1
    have e13 := n2.2.1.2.1
    have f8 : r_fz sd V V8 := r_fz_trans f6 (r_fz_trans (r_fz_fx fx7) (r_fz_fx n3))
    have z8 : ∀ k, (k = 2 ∨ k = 18 ∨ k = 20 ∨ k = 64) → zI V8 0 k = zI V3 0 k := fun k hk => by
      rw [n6 k (by omega) (by omega), fx7.1 0 k (by rintro ⟨-, z⟩; revert z; rcases hk with rfl | rfl | rfl | rfl <;> decide), z6 k hk]
    have tb8 : r_tb b L sd E cc V8 := r_tb_32 htb n4 (fun m hm hk => n8 _ fun m' y1 y2 y3 y4 => by
      rcases Nat.lt_trichotomy m m' with y | y | y
      · have := r_na_lt (K := r_tK b L) y (by omega); omega
      · subst y; omega
      · have := r_na_lt (K := r_tK b L) y (by omega); omega) (by omega) hsd
    have done : ∀ V', (∀ r, zA V' r = zA V8 r) → r_done b L sd E cc V' := fun V' hV => by
      have sm : r_tb b L sd E cc V' := r_tb_32 tb8 (fun r _ => hV r) (fun m _ _ => by rw [hV]) (by omega) hsd
      refine ⟨sm, fun z => ?_, fun m hm hk => ?_, hcc, fun k hk => hcn k hk, h80, hnr⟩
      · rw [hV, n4 23 (by decide)]; exact hd7 z
      · rw [hV]; exact n7 m hm hk (Nat.zero_le _)
    rw [fX12_read_b228, if_pos h7.2.1.2.1, n1, fX12_read_b274, if_pos (show zI V8 0 13 ≤ 0 by rw [e13]; decide)]
    rcases n2.2.2.2.2 with ⟨w1, w2⟩ | ⟨j, k, w1, w2, w3, w4, w5, w6, w7⟩
    · rw [if_pos (show zI V8 0 15 ≤ 0 by rw [w1]; decide), fX12_read_b304, y_let]
      have i13 : zI (zsI V8 0 17 (-1)) 0 13 = 0 := e13
      have i15 : zI (zsI V8 0 17 (-1)) 0 15 = 0 := w1
      have i19 : zI (zsI V8 0 17 (-1)) 0 19 = nI sd := n2.2.2.1.1
      rw [i13, i15, if_pos (by decide), if_pos (by decide), i19]
      simp only [y_let]
      refine ⟨_, _, rfl, Or.inl ⟨rfl, rfl, w2⟩, ?_, r_fz_I (r_fz_I (r_fz_I (r_fz_I f8 (by decide)) (by decide)) (by decide)) (by decide), fun z => absurd rfl z, fun _ => ⟨⟨rfl, rfl, rfl⟩, E, cc, rfl, done _ fun _ => rfl⟩⟩
      exact (z8 2 (Or.inl rfl)).trans z32
    · have k0 : ¬ nI k = 0 := nI_ne0 (by omega) (by omega)
      have kp : ¬ nI k ≤ 0 := nI_ge (a := 0) (show 0 < k by omega) (by omega)
      rw [w5, if_neg kp, fX12_read_b304, y_let]
      have i13 : ∀ x, zI (zsI V8 0 17 x) 0 13 = 0 := fun _ => e13
      have i15 : ∀ x, zI (zsI V8 0 17 x) 0 15 = nI k := fun _ => w5
      rw [i13, i15, if_pos (by decide), if_neg kp]
      refine ⟨_, _, rfl, Or.inr ⟨j, k, w1, w2, w3, w4, rfl, w6, w7⟩, (z8 2 (Or.inl rfl)).trans z32, r_fz_I f8 (by decide), fun _ k hk => ?_, fun z => absurd z k0⟩
      rw [y_get.1, if_neg (by omega), z8 k (Or.inr hk)]
      exact z3 k (by omega) (by omega)
end
