/-! ===== drains and a press's ways in the reference ===== -/
theorem y_fold2_nd (l : List Nat) (g : List Nat → Nat → List Nat) (hg : ∀ A i, A.Nodup → (g A i).Nodup) : ∀ (A : List Nat), A.Nodup → (l.foldl g A).Nodup := by
  induction l with
  | nil => intro A h; exact h
  | cons w l ih => intro A h; exact ih _ (hg A w h)
section
variable {F : Nat} {T : zV} {lv : Nat} {S : y_S} {V V' : zV}
theorem y_mg_lay {p' : Nat} {L' : List Nat} {lost' : Int32} (h : y_mg T S V) (ff : y_fr [(0, 61), (0, 59), (0, 67), (0, 69)] [40, 41, 42] V V') (hp' : p' ≤ 3) (h67 : zI V' 0 67 = nI p') (h69 : zI V' 0 69 = lost') (ml : y_ml T p' L' V') : y_mg T (zsI S.1 14 7 (nI p'), L', lost', S.2.2.2) V' := by
  obtain ⟨g1, g2, g3, g4, g5, g6, g7, gb, p, hp, g8, g9⟩ := h
  refine ⟨fun q hq => ?_, fun q hq i hi => (congrFun (ff.2.1 q.2.1 ?_) i).trans (g2 q hq i hi), fun s hs => (congrFun (ff.2.1 46 (by decide)) s).trans (g3 s hs), fun c hc => (congrFun (ff.2.1 54 (by decide)) c).trans (g4 c hc), (ff.2.2.1 0 65).trans g5, h69, ⟨(ff.1 0 85 (by decide)).trans g7.1, fun i c hc => (congrFun (ff.2.1 55 (by decide)) i).trans (g7.2 i c hc)⟩, gb, p', hp', rfl, ml⟩
  · show zI V' 0 q.2.2 = if q.1 = 14 ∧ q.2.1 = 7 then nI p' else zI S.1 q.1 q.2.1
    by_cases e : q.1 = 14 ∧ q.2.1 = 7
    · have : q.2.2 = 67 := (show ∀ q ∈ y_mnum, q.1 = 14 ∧ q.2.1 = 7 → q.2.2 = 67 by decide) q hq e
      rw [if_pos e, this]; exact h67
    · rw [if_neg e, ff.1 0 q.2.2 ((show ∀ q ∈ y_mnum, ¬ (q.1 = 14 ∧ q.2.1 = 7) → ((0, q.2.2) : Nat × Nat) ∉ [(0, 61), (0, 59), (0, 67), (0, 69)] by decide) q hq e)]
      exact g1 q hq
  · exact (show ∀ q ∈ y_mrow, q.2.1 ∉ [40, 41, 42] by decide) q hq
theorem m_drains1 {p : Nat} (hw : y_ww T) (hp : p ≤ 3) {c i : Nat} (hc : y_gd (y_many T 4) (p + 1) c) (hi : i < 120) {k20 : zV → Int32 → Option zV} :
    ∀ (r q n : Nat) (A : List Nat) (V : zV), q + r = y_many T 4 → r + 1 ≤ n → zA V 40 i = nI (y_enc c) → y_mt T lv V → y_mf (y_many T 4) p A V →
    ∃ V', fX12_drains_l30 F k20 n V (nI i) (nI q) = k20 V' (nI (i + 1)) ∧ y_mf (y_many T 4) p ((List.range' q r).foldl (fun A q => y_put A (y_mv c (q + 1) 0)) A) V' ∧ y_fr [(0, 61)] [41, 42] V V' := by
  intro r
  have hP := hw.2.1
  induction r with
  | zero =>
    intro q n A V e hn h40 hT h
    obtain ⟨n, rfl⟩ : ∃ n', n = n' + 1 := ⟨n - 1, by omega⟩
    refine ⟨V, ?_, h, y_fr_refl⟩
    rw [fX12_drains_l30, show (4 : Int32) = nI 4 from rfl, m_sort hT (by decide), y_bd, hw.1, if_pos (nI_le (by omega) (by omega)), nI_1]
  | succ r ih =>
    intro q n A V e hn h40 hT h
    obtain ⟨n, rfl⟩ : ∃ n', n = n' + 1 := ⟨n - 1, by omega⟩
    rw [fX12_drains_l30, show (4 : Int32) = nI 4 from rfl, m_sort hT (by decide), y_bd, hw.1, if_neg (nI_ge (by omega) (by omega)), y_ck (by omega) (by decide), y_ck (by omega) (by decide), List.range'_succ, List.foldl_cons]
    simp only [nI_clamp (show i < 2 ^ 31 by omega), h40]
    cases hd : y_mv c (q + 1) 0 with
    | none =>
      rw [if_pos ((m_bits hc (by omega)).mpr hd), fX12_drains_b70, nI_1]
      exact ih (q + 1) n A V (by omega) (by omega) h40 hT h
    | some d =>
      rw [if_neg (fun z => by have := (m_bits hc (by omega)).mp z; rw [hd] at this; cases this)]
      have he := y_mv_enc hc.1 (Nat.zero_le _) hd
      rw [y_p4_s] at he
      have e0 : y_p4 0 = 0 := rfl
      have gd := (y_mv_gd hP hc (Nat.zero_le _) hd).1
      rw [show p + 1 + min 0 1 - min (q + 1) 1 = p by omega] at gd
      obtain ⟨V1, g1, g2, g3⟩ := m_comes (F := F) hP hp h gd
      rw [(y_sh0 ⟨q, by omega⟩).2, pk_sub (show 4 ^ q ≤ y_enc c by omega), show y_enc c - 4 ^ q = y_enc d by omega, g1, y_bd, fX12_drains_b70, nI_1]
      obtain ⟨V2, i1, i2, i3⟩ := ih (q + 1) n _ V1 (by omega) (by omega) (by rw [g3.2.1 40 (by decide)]; exact h40) (y_mt_fr hT g3 (by decide) (by decide)) g2
      exact ⟨V2, i1, i2, y_fr_trans g3 i3⟩
theorem m_drainsl {p : Nat} (hF : 3000 ≤ F) (hw : y_ww T) (hp : p ≤ 3) {C : List Nat} (hC : C.length ≤ 120) (gC : ∀ c ∈ C, y_gd (y_many T 4) (p + 1) c) :
    ∀ (l pre : List Nat) (n : Nat) (A : List Nat) (V : zV), C = pre ++ l → l.length + 1 ≤ n → zI V 0 59 = nI C.length → (∀ i c, C[i]? = some c → zA V 40 i = nI (y_enc c)) → y_mt T lv V → y_mf (y_many T 4) p A V →
    ∃ V', fX12_drains_l20 F n V (nI pre.length) = zbd (fX12_knows F V') (fun q => some q) ∧ y_mf (y_many T 4) p (l.foldl (fun A c => (List.range' 0 (y_many T 4)).foldl (fun A q => y_put A (y_mv c (q + 1) 0)) A) A) V' ∧ y_fr [(0, 61)] [41, 42] V V' := by
  have hP := hw.2.1
  intro l
  induction l with
  | nil =>
    intro pre n A V e hn h59 h40 hT h
    obtain ⟨n, rfl⟩ : ∃ n', n = n' + 1 := ⟨n - 1, by omega⟩
    rw [List.append_nil] at e
    subst e
    refine ⟨V, ?_, h, y_fr_refl⟩
    rw [fX12_drains_l20, h59, if_pos (nI_le (Nat.le_refl _) (by omega))]
  | cons c l ih =>
    intro pre n A V e hn h59 h40 hT h
    obtain ⟨n, rfl⟩ : ∃ n', n = n' + 1 := ⟨n - 1, by omega⟩
    have hlen : C.length = pre.length + (l.length + 1) := by rw [e, List.length_append]; rfl
    have hc : C[pre.length]? = some c := by rw [e, List.getElem?_append_right (Nat.le_refl _), Nat.sub_self]; rfl
    have gc := gC c (List.mem_of_getElem? hc)
    obtain ⟨V1, g1, g2, g3⟩ := m_drains1 (F := F) (lv := lv) (i := pre.length) (k20 := fX12_drains_l20 F n) hw hp gc (by omega) (y_many T 4) 0 F A V (by omega) (by omega) (h40 _ _ hc) hT h
    have g1' : fX12_drains_l30 F (fX12_drains_l20 F n) F V (nI pre.length) 0 = fX12_drains_l20 F n V1 (nI (pre.length + 1)) := g1
    rw [fX12_drains_l20, h59, if_neg (nI_ge (by omega) (by omega)), g1']
    obtain ⟨V2, i1, i2, i3⟩ := ih (pre ++ [c]) n _ V1 (by rw [e, List.append_assoc]; rfl) (by simpa using hn) (by rw [g3.1 0 59 (by decide)]; exact h59) (by rw [g3.2.1 40 (by decide)]; exact h40) (y_mt_fr hT g3 (by decide) (by decide)) g2
    rw [List.length_append] at i1
    exact ⟨V2, i1, i2, y_fr_trans g3 i3⟩
theorem m_drains (hF : 3000 ≤ F) (hw : y_ww T) (hT : y_mt T lv V) (h : y_mg T S V) : ∃ V', fX12_drains F V = some V' ∧ y_mg T (y_drop T S) V' ∧ y_fr [(0, 61), (0, 59), (0, 67)] [40, 41, 42] V V' := by
  have hP := hw.2.1
  have h' := h
  obtain ⟨g1, g2, g3, g4, g5, g6, g7, gb, p, hp, g8, g9⟩ := h
  have h67 : zI V 0 67 = nI p := (g1 (14, 7, 67) (by decide)).trans g8
  unfold fX12_drains y_drop
  rw [h67, g8]
  cases p with
  | zero =>
    rw [if_pos (show nI 0 = (0 : Int32) from rfl), if_pos (show nI 0 ≤ (0 : Int32) from nI_le (b := 0) (Nat.le_refl _) (by decide))]
    exact ⟨V, rfl, h', y_fr_refl⟩
  | succ p =>
    rw [if_neg (nI_ne0 (by omega) (by omega)), if_neg (nI_nle (by omega) (by omega)), y_let, nI_pred]
    have g9' := g9
    obtain ⟨⟨C, c1, c2, c3, c4⟩, c5, c6, c7, c8, c9, c10⟩ := g9
    have gC : ∀ c ∈ C, y_gd (y_many T 4) (p + 1) c := fun c hc => c8 c ((c2 c).mp hc)
    have hCl := y_gd_len hP hp c1 gC
    have f0 : y_fr [(0, 67)] [] V (zsI V 0 67 (nI p)) := y_fr_I y_fr_refl (by decide)
    have hmf : y_mf (y_many T 4) p [] (zsI V 0 67 (nI p)) := y_mf_fr (y_mf_nil g9') f0 (by decide) (by decide) (by decide)
    have hT0 := y_mt_fr hT f0 (by decide) (by decide)
    obtain ⟨V1, k1, k2, k3⟩ := m_drainsl (F := F) hF hw (show p ≤ 3 by omega) hCl gC C [] F [] (zsI V 0 67 (nI p)) rfl (by omega) (by rw [f0.1 0 59 (by decide)]; exact c3) (by rw [f0.2.1 40 (by decide)]; exact c4) hT0 hmf
    have k1' : fX12_drains_l20 F F (zsI V 0 67 (nI p)) 0 = zbd (fX12_knows F V1) (fun q => some q) := k1
    have k4 : ∀ x, x ∈ C.foldl (fun A c => (List.range' 0 (y_many T 4)).foldl (fun A q => y_put A (y_mv c (q + 1) 0)) A) [] ↔ x ∈ y_lDrop T S.2.1 := by
      intro x
      rw [y_fold2_mem C _ (fun c x => ∃ q, q ∈ List.range' 0 (y_many T 4) ∧ y_mv c (q + 1) 0 = some x) (fun A c x => y_fold_mem _ (fun q => y_mv c (q + 1) 0) A x), y_lDrop_mem]
      constructor
      · rintro (z | ⟨c, hc, q, hq, e⟩)
        · cases z
        · rw [← List.range_eq_range'] at hq
          exact ⟨q, List.mem_range.mp hq, c, (c2 c).mp hc, e⟩
      · rintro ⟨q, hq, c, hc, e⟩
        exact Or.inr ⟨c, (c2 c).mpr hc, q, by rw [← List.range_eq_range']; exact List.mem_range.mpr hq, e⟩
    generalize C.foldl (fun A c => (List.range' 0 (y_many T 4)).foldl (fun A q => y_put A (y_mv c (q + 1) 0)) A) [] = C1 at k2 k4
    obtain ⟨V2, i1, i2, i3, i4, i5, i6⟩ := m_knows (F := F) (lv := lv) hF hw (show p ≤ 3 by omega) (y_mt_fr hT0 k3 (by decide) (by decide)) k2
    rw [k1', i1, y_bd]
    have ff : y_fr [(0, 61), (0, 59), (0, 67)] [40, 41, 42] V V2 := y_fr_trans (y_fr_mono f0 (by decide) (by decide)) (y_fr_trans (y_fr_mono k3 (by decide) (by decide)) (y_fr_mono i6 (by decide) (by decide)))
    have nd0 : (y_lDrop T S.2.1).Nodup := y_fold2_nd _ _ (fun A q hA => y_fold_nd S.2.1 (fun c => y_mv c (q + 1) 0) A hA) [] List.nodup_nil
    have gd0 : ∀ c ∈ y_lDrop T S.2.1, y_gd (y_many T 4) p c := fun c hc => k2.2.1 c ((k4 c).mpr hc)
    have cl0 := y_lDrop_cl hw c8 c10
    have ml : y_ml T p (y_lDrop T S.2.1) V2 := y_ml_new hw (show p ≤ 3 by omega) k2.1 k2.2.1 nd0 gd0 (fun z => by unfold y_lDrop; rw [z]; rfl) cl0 (fun x => (y_spr_same hw (show p ≤ 3 by omega) k2.1 k2.2.1 nd0 gd0 k4 x).trans (y_spr_id cl0 x)) i2 i3 i4 i5
    refine ⟨V2, rfl, ?_, ff⟩
    have := y_mg_lay h' (y_fr_mono ff (by decide) (by decide)) (show p ≤ 3 by omega) (by rw [i6.1 0 67 (by decide), k3.1 0 67 (by decide)]; rfl) ((ff.1 0 69 (by decide)).trans g6) ml
    exact this
/-! a press's ways -/
theorem m_pass1 {p : Nat} (hw : y_ww T) (hp : p ≤ 3) {w s f t : Nat} (hW : w < y_many T 5) (hf : f < y_many T 4) (ht : t < y_many T 4) (e1 : zA T 6 w = nI f) (e2 : zA T 7 w = nI t) {C : List Nat} (hC : C.length ≤ 120) (gC : ∀ c ∈ C, y_gd (y_many T 4) p c) {k19 : zV → Int32 → Int32 → Int32 → Option zV} :
    ∀ (l pre : List Nat) (n : Nat) (A : List Nat) (V : zV), C = pre ++ l → l.length + 1 ≤ n → zI V 0 59 = nI C.length → (∀ i c, C[i]? = some c → zA V 40 i = nI (y_enc c)) → y_mt T lv V → y_mf (y_many T 4) p A V →
    ∃ V', fX12_passes_l54 F k19 n V (nI s) 1 (nI (24 * lv + w)) (nI pre.length) = k19 V' (nI s) 1 (nI (24 * lv + (w + 1))) ∧ y_mf (y_many T 4) p (y_mvA l A (f + 1) (t + 1)) V' ∧ y_fr [(0, 61)] [41, 42] V V' := by
  have hP := hw.2.1
  have hW5 := hw.2.2.2.1
  intro l
  induction l with
  | nil =>
    intro pre n A V e hn h59 h40 hT h
    obtain ⟨n, rfl⟩ : ∃ n', n = n' + 1 := ⟨n - 1, by omega⟩
    rw [List.append_nil] at e
    subst e
    refine ⟨V, ?_, h, y_fr_refl⟩
    rw [fX12_passes_l54, h59, if_pos (nI_le (Nat.le_refl _) (by omega)), fX12_passes_b123, nI_1, Nat.add_assoc]
  | cons c l ih =>
    intro pre n A V e hn h59 h40 hT h
    obtain ⟨n, rfl⟩ : ∃ n', n = n' + 1 := ⟨n - 1, by omega⟩
    have hlv := hT.1.1
    have hlen : C.length = pre.length + (l.length + 1) := by rw [e, List.length_append]; rfl
    have hc : C[pre.length]? = some c := by rw [e, List.getElem?_append_right (Nat.le_refl _), Nat.sub_self]; rfl
    have gc := gC c (List.mem_of_getElem? hc)
    obtain ⟨b1, b2, b3⟩ := hT.2.2.2.2.2.2.1 w hW
    have ea : y_mv c (f + 1) (t + 1) = none ↔ y_mv c (f + 1) 0 = none := by
      have := y_mv_any (c := c) (a := f + 1) (b := t + 1) (b' := 0)
      constructor
      · intro z; rw [z] at this; cases hx : y_mv c (f + 1) 0 with
        | none => rfl
        | some d => rw [hx] at this; cases this
      · intro z; rw [z] at this; cases hx : y_mv c (f + 1) (t + 1) with
        | none => rfl
        | some d => rw [hx] at this; cases this
    have next : ∀ (A : List Nat) (V : zV), zI V 0 59 = nI C.length → (∀ i c, C[i]? = some c → zA V 40 i = nI (y_enc c)) → y_mt T lv V → y_mf (y_many T 4) p A V → ∃ V', fX12_passes_b117 F (fX12_passes_l54 F k19 n) V (nI s) 1 (nI (24 * lv + w)) (nI pre.length) = k19 V' (nI s) 1 (nI (24 * lv + (w + 1))) ∧ y_mf (y_many T 4) p (y_mvA l A (f + 1) (t + 1)) V' ∧ y_fr [(0, 61)] [41, 42] V V' := by
      intro A V h59 h40 hT h
      have g := ih (pre ++ [c]) n A V (by rw [e, List.append_assoc]; rfl) (by simpa using hn) h59 h40 hT h
      rw [List.length_append] at g
      rw [fX12_passes_b117, nI_1]
      exact g
    rw [fX12_passes_l54, h59, if_neg (nI_ge (by omega) (by omega)), y_ck (by omega) (by decide), y_ck (by omega) (by decide), y_ck (by omega) (by decide), y_ck (by omega) (by decide), y_ck (by omega) (by decide)]
    simp only [nI_clamp (show pre.length < 2 ^ 31 by omega), nI_clamp (show 24 * lv + w < 2 ^ 31 by omega), b1, b2, e1, e2, h40 _ _ hc]
    have em : y_mvA (c :: l) A (f + 1) (t + 1) = y_mvA l (y_put A (y_mv c (f + 1) (t + 1))) (f + 1) (t + 1) := rfl
    rw [em]
    cases hd : y_mv c (f + 1) (t + 1) with
    | none =>
      rw [if_pos ((m_bits gc (by omega)).mpr (ea.mp hd))]
      exact next A V h59 h40 hT h
    | some d =>
      rw [if_neg (fun z => by have := ea.mpr ((m_bits gc (by omega)).mp z); rw [hd] at this; cases this)]
      obtain ⟨V1, g1, g2, g3⟩ := m_goes (F := F) hP hp h gc hf ht hd
      rw [g1, y_bd]
      obtain ⟨V2, i1, i2, i3⟩ := next _ V1 (by rw [g3.1 0 59 (by decide)]; exact h59) (by rw [g3.2.1 40 (by decide)]; exact h40) (y_mt_fr hT g3 (by decide) (by decide)) g2
      exact ⟨V2, i1, i2, y_fr_trans g3 i3⟩
theorem m_passl {p : Nat} (hF : 3000 ≤ F) (hw : y_ww T) (hp : p ≤ 3) {s : Nat} {C : List Nat} (hC : C.length ≤ 120) (gC : ∀ c ∈ C, y_gd (y_many T 4) p c) :
    ∀ (r w n : Nat) (x2 : Int32) (A : List Nat) (V : zV), w + r = y_many T 5 → r + 1 ≤ n → zI V 0 59 = nI C.length → (∀ i c, C[i]? = some c → zA V 40 i = nI (y_enc c)) → y_mt T lv V → y_mf (y_many T 4) p A V →
    ∃ V' y2, fX12_passes_l19 F n V (nI s) x2 (nI (24 * lv + w)) = (if y2 = 0 then some V' else if zI V' 0 61 = 0 then zlet (zsI V' 0 69 (zI V' 0 69 + 1)) fun V7_37 => fX12_passes_l153 F F V7_37 0 else fX12_passes_b292 F V') ∧ y2 = (if ((List.range' w r).filter fun w => zA T 8 w = nI s) = [] then x2 else 1) ∧
      y_mf (y_many T 4) p (((List.range' w r).filter fun w => zA T 8 w = nI s).foldl (fun A w => y_mvA C A (y_way T w).1 (y_way T w).2) A) V' ∧ y_fr [(0, 61)] [41, 42] V V' := by
  intro r
  have hP := hw.2.1
  have hW := hw.2.2.2.1
  induction r with
  | zero =>
    intro w n x2 A V e hn h59 h40 hT h
    obtain ⟨n, rfl⟩ : ∃ n', n = n' + 1 := ⟨n - 1, by omega⟩
    have hlv := hT.1.1
    refine ⟨V, x2, ?_, ?_, h, y_fr_refl⟩
    · rw [fX12_passes_l19, show (5 : Int32) = nI 5 from rfl, m_sort hT (by decide), y_bd, hT.1.2, show (24 : Int32) = nI 24 from rfl, pk_mul, hw.2.2.1, nI_add, if_pos (nI_le (by omega) (by omega))]
    · rw [show (List.range' w 0).filter _ = [] from rfl, if_pos rfl]
  | succ r ih =>
    intro w n x2 A V e hn h59 h40 hT h
    obtain ⟨n, rfl⟩ : ∃ n', n = n' + 1 := ⟨n - 1, by omega⟩
    have hlv := hT.1.1
    obtain ⟨f, t, hf, ht, e1, e2, e3⟩ := y_way_eq hw (w := w) (by omega)
    obtain ⟨b1, b2, b3⟩ := hT.2.2.2.2.2.2.1 w (by omega)
    rw [fX12_passes_l19, show (5 : Int32) = nI 5 from rfl, m_sort hT (by decide), y_bd, hT.1.2, show (24 : Int32) = nI 24 from rfl, pk_mul, hw.2.2.1, nI_add, if_neg (nI_ge (by omega) (by omega)), y_ck (by omega) (by decide), List.range'_succ, List.filter_cons]
    simp only [nI_clamp (show 24 * lv + w < 2 ^ 31 by omega), b3]
    by_cases hs : zA T 8 w = nI s
    · rw [if_pos hs, if_pos (show decide (zA T 8 w = nI s) = true from decide_eq_true hs), List.foldl_cons, e3]
      obtain ⟨V1, g1, g2, g3⟩ := m_pass1 (F := F) (lv := lv) (s := s) (w := w) (k19 := fX12_passes_l19 F n) hw hp (by omega) hf ht e1 e2 hC gC C [] F A V rfl (by omega) h59 h40 hT h
      have g1' : fX12_passes_l54 F (fX12_passes_l19 F n) F V (nI s) 1 (nI (24 * lv + w)) 0 = fX12_passes_l19 F n V1 (nI s) 1 (nI (24 * lv + (w + 1))) := g1
      obtain ⟨V2, y2, i1, i2, i3, i4⟩ := ih (w + 1) n 1 _ V1 (by omega) (by omega) (by rw [g3.1 0 59 (by decide)]; exact h59) (by rw [g3.2.1 40 (by decide)]; exact h40) (y_mt_fr hT g3 (by decide) (by decide)) g2
      refine ⟨V2, y2, g1'.trans i1, ?_, i3, y_fr_trans g3 i4⟩
      rw [if_neg (by simp), i2]
      split <;> rfl
    · rw [if_neg hs, if_neg (show ¬ decide (zA T 8 w = nI s) = true from fun z => hs (of_decide_eq_true z)), fX12_passes_b123, nI_1, Nat.add_assoc]
      exact ih (w + 1) n x2 A V (by omega) (by omega) h59 h40 hT h
/-- the layouts of so many balls, by places that don't fall -/
def y_cd (p a b c : Nat) : Nat := if p = 0 then 0 else if p = 1 then (a + 1) * 81 else if p = 2 then ((b + 1) * 9 + (a + 1)) * 9 else ((c + 1) * 9 + (b + 1)) * 9 + (a + 1)
theorem y_cd_gd {P p a b c : Nat} (hP : P ≤ 8) (hp : p ≤ 3) (hab : a ≤ b) (hbc : b ≤ c) (hc : c < P) : y_gd P p (y_cd p a b c) := by
  have hp' : p = 0 ∨ p = 1 ∨ p = 2 ∨ p = 3 := by omega
  unfold y_gd y_cnt y_cd
  rcases hp' with rfl | rfl | rfl | rfl
  · rw [if_pos rfl]; exact ⟨by decide, Nat.zero_le _, by decide, by decide, by decide⟩
  · rw [if_neg (by decide), if_pos rfl]
    refine ⟨by omega, by omega, by omega, by omega, by omega⟩
  · rw [if_neg (by decide), if_neg (by decide), if_pos rfl]
    refine ⟨by omega, by omega, by omega, by omega, by omega⟩
  · rw [if_neg (by decide), if_neg (by decide), if_neg (by decide)]
    have h := y_dig (x := c + 1) (y := b + 1) (z := a + 1) (by omega) (by omega)
    rw [h.1, h.2.1, h.2.2]
    refine ⟨by omega, by omega, by omega, by omega, by omega⟩
theorem y_cd_enc {p a b c : Nat} (hp : p ≤ 3) (ha : a < 8) (hb : b < 8) (hc : c < 8) : y_enc (y_cd p a b c) = if p = 0 then 0 else if p = 1 then 4 ^ a else if p = 2 then 4 ^ a + 4 ^ b else 4 ^ a + 4 ^ b + 4 ^ c := by
  have hp' : p = 0 ∨ p = 1 ∨ p = 2 ∨ p = 3 := by omega
  unfold y_cd
  rcases hp' with rfl | rfl | rfl | rfl
  · rw [if_pos rfl, if_pos rfl]; rfl
  · rw [if_neg (by decide), if_pos rfl, if_neg (by decide), if_pos rfl]
    unfold y_enc
    rw [show (a + 1) * 81 / 81 = a + 1 by omega, show (a + 1) * 81 / 9 % 9 = 0 by omega, show (a + 1) * 81 % 9 = 0 by omega, y_p4_s]; rfl
  · rw [if_neg (by decide), if_neg (by decide), if_pos rfl, if_neg (by decide), if_neg (by decide), if_pos rfl]
    unfold y_enc
    rw [show ((b + 1) * 9 + (a + 1)) * 9 / 81 = b + 1 by omega, show ((b + 1) * 9 + (a + 1)) * 9 / 9 % 9 = a + 1 by omega, show ((b + 1) * 9 + (a + 1)) * 9 % 9 = 0 by omega, y_p4_s, y_p4_s]
    show 4 ^ b + 4 ^ a + 0 = _
    omega
  · rw [if_neg (by decide), if_neg (by decide), if_neg (by decide), if_neg (by decide), if_neg (by decide), if_neg (by decide)]
    unfold y_enc
    rw [show (((c + 1) * 9 + (b + 1)) * 9 + (a + 1)) / 81 = c + 1 by omega, show (((c + 1) * 9 + (b + 1)) * 9 + (a + 1)) / 9 % 9 = b + 1 by omega, show (((c + 1) * 9 + (b + 1)) * 9 + (a + 1)) % 9 = a + 1 by omega, y_p4_s, y_p4_s, y_p4_s]
    omega
theorem y_cd_all {P p x : Nat} (hP : P ≤ 8) (hP0 : 0 < P) (hp : p ≤ 3) (h : y_gd P p x) : ∃ a b c, a ≤ b ∧ b ≤ c ∧ c < P ∧ y_cd p a b c = x := by
  obtain ⟨h1, h2, h3, h4, h5⟩ := h
  unfold y_cnt at h5
  have hp' : p = 0 ∨ p = 1 ∨ p = 2 ∨ p = 3 := by omega
  have hx : x = (x / 81 * 9 + x / 9 % 9) * 9 + x % 9 := by omega
  unfold y_cd
  generalize x / 81 = u at *
  generalize x / 9 % 9 = v at *
  generalize x % 9 = z at *
  rcases hp' with rfl | rfl | rfl | rfl
  · exact ⟨0, 0, 0, Nat.le_refl _, Nat.le_refl _, hP0, by rw [if_pos rfl]; omega⟩
  · exact ⟨u - 1, u - 1, u - 1, Nat.le_refl _, Nat.le_refl _, by omega, by rw [if_neg (by decide), if_pos rfl]; omega⟩
  · exact ⟨v - 1, u - 1, u - 1, by omega, Nat.le_refl _, by omega, by rw [if_neg (by decide), if_neg (by decide), if_pos rfl]; omega⟩
  · exact ⟨z - 1, v - 1, u - 1, by omega, by omega, by omega, by rw [if_neg (by decide), if_neg (by decide), if_neg (by decide)]; omega⟩
theorem m_all3 {p : Nat} (hw : y_ww T) (hp : p ≤ 3) {a b : Nat} (hab : a ≤ b) {k : zV → Int32 → Int32 → Option zV} :
    ∀ (r c n : Nat) (A : List Nat) (V : zV), c + r = y_many T 4 → b ≤ c → b < y_many T 4 → r + 1 ≤ n → zI V 0 67 = nI p → y_mt T lv V → y_mf (y_many T 4) p A V →
    ∃ V', fX12_passes_l179 F k n V (nI a) (nI b) (nI c) = k V' (nI a) (nI (b + 1)) ∧ y_mf (y_many T 4) p ((List.range' c r).foldl (fun A c => y_put A (some (y_cd p a b c))) A) V' ∧ y_fr [(0, 61)] [41, 42] V V' := by
  intro r
  have hP := hw.2.1
  induction r with
  | zero =>
    intro c n A V e hbc hb hn h67 hT h
    obtain ⟨n, rfl⟩ : ∃ n', n = n' + 1 := ⟨n - 1, by omega⟩
    refine ⟨V, ?_, h, y_fr_refl⟩
    rw [fX12_passes_l179, show (4 : Int32) = nI 4 from rfl, m_sort hT (by decide), y_bd, hw.1, if_pos (nI_le (by omega) (by omega)), nI_1]
  | succ r ih =>
    intro c n A V e hbc hb hn h67 hT h
    obtain ⟨n, rfl⟩ : ∃ n', n = n' + 1 := ⟨n - 1, by omega⟩
    have gd := y_cd_gd hP hp hab hbc (show c < y_many T 4 by omega)
    obtain ⟨V1, g1, g2, g3⟩ := m_comes (F := F) hP hp h gd
    have he := y_cd_enc (a := a) (b := b) (c := c) hp (by omega) (by omega) (by omega)
    obtain ⟨V2, i1, i2, i3⟩ := ih (c + 1) n _ V1 (by omega) (by omega) hb (by omega) (by rw [g3.1 0 67 (by decide)]; exact h67) (y_mt_fr hT g3 (by decide) (by decide)) g2
    refine ⟨V2, ?_, i2, y_fr_trans g3 i3⟩
    rw [← i1, fX12_passes_l179, show (4 : Int32) = nI 4 from rfl, m_sort hT (by decide), y_bd, hw.1, if_neg (nI_ge (by omega) (by omega)), h67, (y_sh0 ⟨a, by omega⟩).2, (y_sh0 ⟨b, by omega⟩).2, (y_sh0 ⟨c, by omega⟩).2, nI_add, nI_add]
    have hp' : p = 0 ∨ p = 1 ∨ p = 2 ∨ p = 3 := by omega
    rcases hp' with rfl | rfl | rfl | rfl
    · rw [if_pos rfl] at he
      rw [he] at g1
      have g1' : fX12_comes F V 0 = some V1 := g1
      rw [if_pos (show nI 0 = (0 : Int32) from rfl), g1', y_bd, fX12_passes_b274, nI_1]
    · rw [if_neg (by decide), if_pos rfl] at he
      rw [he] at g1
      rw [if_neg (by decide), if_pos (show nI 1 = (1 : Int32) from rfl), g1, y_bd, fX12_passes_b274, nI_1]
    · rw [if_neg (by decide), if_neg (by decide), if_pos rfl] at he
      rw [he] at g1
      rw [if_neg (by decide), if_neg (by decide), if_pos (show nI 2 = (2 : Int32) from rfl), g1, y_bd, fX12_passes_b274, nI_1]
    · rw [if_neg (by decide), if_neg (by decide), if_neg (by decide)] at he
      rw [he] at g1
      rw [if_neg (by decide), if_neg (by decide), if_neg (by decide), g1, y_bd, fX12_passes_b274, nI_1]
theorem m_all2 {p : Nat} (hF : 3000 ≤ F) (hw : y_ww T) (hp : p ≤ 3) {a : Nat} {k : zV → Int32 → Option zV} :
    ∀ (r b n : Nat) (A : List Nat) (V : zV), b + r = y_many T 4 → a ≤ b → r + 1 ≤ n → zI V 0 67 = nI p → y_mt T lv V → y_mf (y_many T 4) p A V →
    ∃ V', fX12_passes_l165 F k n V (nI a) (nI b) = k V' (nI (a + 1)) ∧ y_mf (y_many T 4) p ((List.range' b r).foldl (fun A b => (List.range' b (y_many T 4 - b)).foldl (fun A c => y_put A (some (y_cd p a b c))) A) A) V' ∧ y_fr [(0, 61)] [41, 42] V V' := by
  intro r
  have hP := hw.2.1
  induction r with
  | zero =>
    intro b n A V e hab hn h67 hT h
    obtain ⟨n, rfl⟩ : ∃ n', n = n' + 1 := ⟨n - 1, by omega⟩
    refine ⟨V, ?_, h, y_fr_refl⟩
    rw [fX12_passes_l165, show (4 : Int32) = nI 4 from rfl, m_sort hT (by decide), y_bd, hw.1, if_pos (nI_le (by omega) (by omega)), nI_1]
  | succ r ih =>
    intro b n A V e hab hn h67 hT h
    obtain ⟨n, rfl⟩ : ∃ n', n = n' + 1 := ⟨n - 1, by omega⟩
    obtain ⟨V1, g1, g2, g3⟩ := m_all3 (F := F) (lv := lv) (k := fX12_passes_l165 F k n) hw hp hab (y_many T 4 - b) b F A V (by omega) (Nat.le_refl _) (by omega) (by omega) h67 hT h
    obtain ⟨V2, i1, i2, i3⟩ := ih (b + 1) n _ V1 (by omega) (by omega) (by omega) (by rw [g3.1 0 67 (by decide)]; exact h67) (y_mt_fr hT g3 (by decide) (by decide)) g2
    refine ⟨V2, ?_, i2, y_fr_trans g3 i3⟩
    rw [← i1, ← g1, fX12_passes_l165, show (4 : Int32) = nI 4 from rfl, m_sort hT (by decide), y_bd, hw.1, if_neg (nI_ge (by omega) (by omega))]
theorem m_all1 {p : Nat} (hF : 3000 ≤ F) (hw : y_ww T) (hp : p ≤ 3) :
    ∀ (r a n : Nat) (A : List Nat) (V : zV), a + r = y_many T 4 → r + 1 ≤ n → zI V 0 67 = nI p → y_mt T lv V → y_mf (y_many T 4) p A V →
    ∃ V', fX12_passes_l153 F n V (nI a) = fX12_passes_b292 F V' ∧ y_mf (y_many T 4) p ((List.range' a r).foldl (fun A a => (List.range' a (y_many T 4 - a)).foldl (fun A b => (List.range' b (y_many T 4 - b)).foldl (fun A c => y_put A (some (y_cd p a b c))) A) A) A) V' ∧ y_fr [(0, 61)] [41, 42] V V' := by
  intro r
  have hP := hw.2.1
  induction r with
  | zero =>
    intro a n A V e hn h67 hT h
    obtain ⟨n, rfl⟩ : ∃ n', n = n' + 1 := ⟨n - 1, by omega⟩
    refine ⟨V, ?_, h, y_fr_refl⟩
    rw [fX12_passes_l153, show (4 : Int32) = nI 4 from rfl, m_sort hT (by decide), y_bd, hw.1, if_pos (nI_le (by omega) (by omega))]
  | succ r ih =>
    intro a n A V e hn h67 hT h
    obtain ⟨n, rfl⟩ : ∃ n', n = n' + 1 := ⟨n - 1, by omega⟩
    obtain ⟨V1, g1, g2, g3⟩ := m_all2 (F := F) (lv := lv) (a := a) (k := fX12_passes_l153 F n) hF hw hp (y_many T 4 - a) a F A V (by omega) (Nat.le_refl _) (by omega) h67 hT h
    obtain ⟨V2, i1, i2, i3⟩ := ih (a + 1) n _ V1 (by omega) (by omega) (by rw [g3.1 0 67 (by decide)]; exact h67) (y_mt_fr hT g3 (by decide) (by decide)) g2
    refine ⟨V2, ?_, i2, y_fr_trans g3 i3⟩
    rw [← i1, ← g1, fX12_passes_l153, show (4 : Int32) = nI 4 from rfl, m_sort hT (by decide), y_bd, hw.1, if_neg (nI_ge (by omega) (by omega))]
theorem m_all_mem {P p : Nat} (hP : P ≤ 8) (hP0 : 0 < P) (hp : p ≤ 3) (x : Nat) : x ∈ (List.range' 0 P).foldl (fun A a => (List.range' a (P - a)).foldl (fun A b => (List.range' b (P - b)).foldl (fun A c => y_put A (some (y_cd p a b c))) A) A) [] ↔ x ∈ y_all P p := by
  have m3 : ∀ (a b : Nat) (A : List Nat) (x : Nat), x ∈ (List.range' b (P - b)).foldl (fun A c => y_put A (some (y_cd p a b c))) A ↔ x ∈ A ∨ ∃ c, c ∈ List.range' b (P - b) ∧ some (y_cd p a b c) = some x := fun a b A x => y_fold_mem _ (fun c => some (y_cd p a b c)) A x
  have m2 : ∀ (a : Nat) (A : List Nat) (x : Nat), x ∈ (List.range' a (P - a)).foldl (fun A b => (List.range' b (P - b)).foldl (fun A c => y_put A (some (y_cd p a b c))) A) A ↔ x ∈ A ∨ ∃ b, b ∈ List.range' a (P - a) ∧ ∃ c, c ∈ List.range' b (P - b) ∧ some (y_cd p a b c) = some x := fun a A x => y_fold2_mem _ _ (fun b x => ∃ c, c ∈ List.range' b (P - b) ∧ some (y_cd p a b c) = some x) (fun A b x => m3 a b A x) A x
  rw [y_fold2_mem _ _ (fun a x => ∃ b, b ∈ List.range' a (P - a) ∧ ∃ c, c ∈ List.range' b (P - b) ∧ some (y_cd p a b c) = some x) (fun A a x => m2 a A x), y_all_iff]
  constructor
  · rintro (z | ⟨a, ha, b, hb, c, hc, e⟩)
    · cases z
    · rw [List.mem_range'_1] at ha hb hc
      cases e
      exact y_cd_gd hP hp hb.1 hc.1 (by omega)
  · intro z
    obtain ⟨a, b, c, h1, h2, h3, e⟩ := y_cd_all hP hP0 hp z
    exact Or.inr ⟨a, List.mem_range'_1.mpr ⟨by omega, by omega⟩, b, List.mem_range'_1.mpr ⟨h1, by omega⟩, c, List.mem_range'_1.mpr ⟨h2, by omega⟩, by rw [e]⟩
end
section
variable {F : Nat} {T : zV} {lv : Nat} {S : y_S} {V V' : zV}
theorem y_by_eq {s : Nat} : y_by T s = (List.range' 0 (y_many T 5)).filter fun w => zA T 8 w = nI s := by unfold y_by; rw [List.range_eq_range']
/-- the ways of a press that counts -/
theorem m_passes (hF : 3000 ≤ F) (hw : y_ww T) {s : Nat} (hT : y_mt T lv V) (h : y_mg T S V) : ∃ V', fX12_passes F V (nI s) = some V' ∧ y_mg T (y_move T S s) V' ∧ y_fr [(0, 61), (0, 59), (0, 69)] [40, 41, 42] V V' := by
  have hP := hw.2.1
  have h' := h
  obtain ⟨g1, g2, g3, g4, g5, g6, g7, gb, p, hp, g8, g9⟩ := h
  have h67 : zI V 0 67 = nI p := (g1 (14, 7, 67) (by decide)).trans g8
  have hS7 := y_set7 g8
  have hS7' : zsI S.1 14 7 (nI p) = S.1 := hS7
  unfold fX12_passes
  rw [show (4 : Int32) = nI 4 from rfl, m_sort hT (by decide), y_bd, hw.1]
  by_cases hP0 : y_many T 4 = 0
  · have hb : y_by T s = [] := by
      rw [y_by_eq]
      have : y_many T 5 = 0 := by
        rcases Nat.eq_zero_or_pos (y_many T 5) with a | a
        · exact a
        · obtain ⟨f, t, hf, -⟩ := hw.2.2.2.2 0 a; omega
      rw [this]; rfl
    unfold y_move
    rw [hP0, if_pos (show nI 0 = (0 : Int32) from rfl), if_pos hb]
    exact ⟨V, rfl, h', y_fr_refl⟩
  rw [if_neg (nI_ne0 (by omega) (by omega)), y_let]
  have g9' := g9
  obtain ⟨⟨C, c1, c2, c3, c4⟩, c5, c6, c7, c8, c9, c10⟩ := g9
  have gC : ∀ c ∈ C, y_gd (y_many T 4) p c := fun c hc => c8 c ((c2 c).mp hc)
  have hCl := y_gd_len hP hp c1 gC
  obtain ⟨V1, y2, k1, k2, k3, k4⟩ := m_passl (F := F) (s := s) hF hw hp hCl gC (y_many T 5) 0 F 0 [] V (by omega) (by have := hw.2.2.2.1; omega) c3 c4 hT (y_mf_nil g9')
  rw [← y_by_eq] at k2 k3
  rw [hT.1.2, show (24 : Int32) = nI 24 from rfl, pk_mul, show 24 * lv = 24 * lv + 0 from rfl, k1]
  unfold y_move
  have mem2 : ∀ (K : List Nat) (x : Nat), x ∈ (y_by T s).foldl (fun A w => y_mvA K A (y_way T w).1 (y_way T w).2) [] ↔ ∃ w, w ∈ y_by T s ∧ ∃ c, c ∈ K ∧ y_mv c (y_way T w).1 (y_way T w).2 = some x := by
    intro K x
    rw [y_fold2_mem (y_by T s) (fun A w => y_mvA K A (y_way T w).1 (y_way T w).2) (fun w x => ∃ c, c ∈ K ∧ y_mv c (y_way T w).1 (y_way T w).2 = some x) (fun A i x => y_mvA_mem)]
    exact ⟨fun z => z.elim (fun z => by cases z) id, Or.inr⟩
  have kL : ∀ x, x ∈ (y_by T s).foldl (fun A w => y_mvA C A (y_way T w).1 (y_way T w).2) [] ↔ x ∈ y_lBy T S.2.1 s := by
    intro x
    unfold y_lBy
    rw [mem2, mem2]
    constructor
    · rintro ⟨w, hw', c, hc, e⟩; exact ⟨w, hw', c, (c2 c).mp hc, e⟩
    · rintro ⟨w, hw', c, hc, e⟩; exact ⟨w, hw', c, (c2 c).mpr hc, e⟩
  have hT1 := y_mt_fr hT k4 (by decide) (by decide)
  by_cases hb : y_by T s = []
  · rw [if_pos hb] at k2
    rw [k2, if_pos rfl, if_pos hb]
    rw [hb] at k3
    have ff : y_fr [(0, 61), (0, 59), (0, 69)] [40, 41, 42] V V1 := y_fr_mono k4 (by decide) (by decide)
    have ml : y_ml T p S.2.1 V1 := ⟨⟨C, c1, c2, (k4.1 0 59 (by decide)).trans c3, by rw [k4.2.1 40 (by decide)]; exact c4⟩, k3.2.2.1, fun l hl => (k3.2.2.2.2.1 l hl).resolve_right (fun z => by obtain ⟨c, hc, -⟩ := (k3.2.2.2.2.2 l hl).mp z; cases hc), c7, c8, c9, c10⟩
    have := y_mg_lay h' (y_fr_mono ff (by decide) (by decide)) hp (by rw [k4.1 0 67 (by decide)]; exact h67) ((k4.1 0 69 (by decide)).trans g6) ml
    rw [hS7'] at this
    exact ⟨V1, rfl, this, ff⟩
  rw [if_neg hb] at k2
  rw [k2, if_neg (by decide), if_neg hb, k3.2.2.1]
  have lem : ∀ (V2 : zV) (C2 L2 : List Nat) (lost2 : Int32), y_mt T lv V2 → y_mf (y_many T 4) p C2 V2 → y_fr [(0, 61), (0, 69)] [41, 42] V V2 → zI V2 0 69 = lost2 → L2.Nodup → (∀ c ∈ L2, y_gd (y_many T 4) p c) → y_cl T (fun c => c ∈ L2) → (∀ x, x ∈ y_spr T 121 0 C2 ↔ x ∈ L2) →
      ∃ V', fX12_passes_b292 F V2 = some V' ∧ y_mg T (S.1, L2, lost2, S.2.2.2) V' ∧ y_fr [(0, 61), (0, 59), (0, 69)] [40, 41, 42] V V' := by
    intro V2 C2 L2 lost2 a1 a2 a3 a4 a5 a6 a7 a8
    obtain ⟨V3, i1, i2, i3, i4, i5, i6⟩ := m_knows (F := F) (lv := lv) hF hw hp a1 a2
    have ff : y_fr [(0, 61), (0, 59), (0, 69)] [40, 41, 42] V V3 := y_fr_trans (y_fr_mono a3 (by decide) (by decide)) (y_fr_mono i6 (by decide) (by decide))
    have ml : y_ml T p L2 V3 := y_ml_new hw hp a2.1 a2.2.1 a5 a6 (fun z => absurd z hP0) a7 a8 i2 i3 i4 i5
    have := y_mg_lay h' (y_fr_mono ff (by decide) (by decide)) hp (by rw [ff.1 0 67 (by decide)]; exact h67) ((i6.1 0 69 (by decide)).trans a4) ml
    rw [hS7'] at this
    refine ⟨V3, ?_, this, ff⟩
    rw [fX12_passes_b292, i1, y_bd]
  have hl1 := y_gd_len hP hp k3.1 k3.2.1
  generalize (y_by T s).foldl (fun A w => y_mvA C A (y_way T w).1 (y_way T w).2) [] = C1 at k3 kL hl1 ⊢
  cases hL : y_lBy T S.2.1 s with
  | nil =>
    have hC1 : C1 = [] := by
      cases C1 with
      | nil => rfl
      | cons c l => have := (kL c).mp List.mem_cons_self; rw [hL] at this; cases this
    rw [hC1, if_pos (show nI ([] : List Nat).length = 0 from rfl), y_let]
    dsimp only
    have f1 : y_fr [(0, 69)] [] V1 (zsI V1 0 69 (zI V1 0 69 + 1)) := y_fr_I y_fr_refl (by decide)
    rw [hC1] at k3
    obtain ⟨V2, j1, j2, j3⟩ := m_all1 (F := F) (lv := lv) hF hw hp (y_many T 4) 0 F [] _ (by omega) (by omega) (by rw [f1.1 0 67 (by decide), k4.1 0 67 (by decide)]; exact h67) (y_mt_fr hT1 f1 (by decide) (by decide)) (y_mf_fr k3 f1 (by decide) (by decide) (by decide))
    have j1' : fX12_passes_l153 F F (zsI V1 0 69 (zI V1 0 69 + 1)) 0 = fX12_passes_b292 F V2 := j1
    rw [j1', g8, nI_clamp (by omega)]
    have hm := m_all_mem hP (show 0 < y_many T 4 by omega) hp
    generalize (List.range' 0 (y_many T 4)).foldl (fun A a => (List.range' a (y_many T 4 - a)).foldl (fun A b => (List.range' b (y_many T 4 - b)).foldl (fun A c => y_put A (some (y_cd p a b c))) A) A) [] = C2 at j2 hm
    have ndA : (y_all (y_many T 4) p).Nodup := List.Pairwise.filter _ List.nodup_range
    have gdA : ∀ c ∈ y_all (y_many T 4) p, y_gd (y_many T 4) p c := fun c hc => y_all_iff.mp hc
    refine lem V2 C2 _ _ (y_mt_fr (y_mt_fr hT1 f1 (by decide) (by decide)) j3 (by decide) (by decide)) j2 (y_fr_trans (y_fr_mono k4 (by decide) (by decide)) (y_fr_trans (y_fr_mono f1 (by decide) (by decide)) (y_fr_mono j3 (by decide) (by decide)))) ?_ ndA gdA (y_all_cl hw) (fun x => (y_spr_same hw hp j2.1 j2.2.1 ndA gdA hm x).trans (y_spr_id (y_all_cl hw) x))
    rw [j3.1 0 69 (by decide)]
    show zI V1 0 69 + 1 = _
    rw [k4.1 0 69 (by decide), g6]
  | cons c0 l0 =>
    have hne : ¬ C1.length = 0 := by
      have := (kL c0).mpr (by rw [hL]; exact List.mem_cons_self)
      cases C1 with
      | nil => cases this
      | cons c l => exact Nat.succ_ne_zero _
    rw [if_neg (nI_ne0 (by omega) (by omega))]
    dsimp only
    have nd0 : (y_lBy T S.2.1 s).Nodup := y_fold2_nd _ _ (fun A w hA => y_fold_nd S.2.1 (fun c => y_mv c (y_way T w).1 (y_way T w).2) A hA) [] List.nodup_nil
    have gd0 : ∀ c ∈ y_lBy T S.2.1 s, y_gd (y_many T 4) p c := fun c hc => k3.2.1 c ((kL c).mpr hc)
    rw [← hL]
    have hnew := y_spr_gd hw 121 0 (y_lBy T S.2.1 s) nd0 gd0
    exact lem V1 C1 _ _ hT1 k3 (y_fr_mono k4 (by decide) (by decide)) ((k4.1 0 69 (by decide)).trans g6) hnew.1 hnew.2 (y_spr_cl hw hp 121 0 _ rfl nd0 gd0 fun j c hj => by omega) (fun x => y_spr_same hw hp k3.1 k3.2.1 nd0 gd0 kL x)
end
