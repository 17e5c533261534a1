/-! ===== the reference's fires() ===== -/
section
variable {F : Nat} {T : zV} {lv : Nat} {S : y_S} {V V' : zV}
/-- how often coils fired, and when, while f fired now -/
def y_cj (t : Nat) (f : List Nat) (S : y_S) : Prop := y_I S 0 10 = nI t ∧ ∀ d, d < 8 → ∃ c j, y_R S 11 d = nI c ∧ y_R S 12 d = nI j ∧ ((d ∈ f ∧ 1 ≤ c ∧ c ≤ t ∧ j = t) ∨ (¬ d ∈ f ∧ c < t ∧ j < t))
theorem y_cj_54 {t : Nat} {f k : List Nat} (ht : t ≤ 5001) (h : y_cj t f S) (hg : y_mg T (y_q S k) V) {d : Nat} (hd : d < 8) : zA V 54 d = nI t ↔ d ∈ f := by
  obtain ⟨c, j, ec, ej, z⟩ := h.2 d hd
  have e : zA V 54 d = if y_R S 11 d = 0 then -1 else y_R S 12 d := hg.2.2.2.1 d hd
  rw [e, ec, ej]
  rcases z with ⟨z1, z2, z3, z4⟩ | ⟨z1, z2, z3⟩
  · rw [if_neg (nI_ne0 (by omega) (by omega)), z4]
    exact ⟨fun _ => z1, fun _ => rfl⟩
  · refine ⟨fun y => ?_, fun y => absurd y z1⟩
    exfalso
    by_cases q : c = 0
    · rw [q, if_pos (show nI 0 = (0 : Int32) from rfl)] at y
      have := nI_pos (n := t) (by omega)
      rw [← y] at this
      exact this (by decide)
    · rw [if_neg (nI_ne0 (by omega) (by omega))] at y
      have := (nI_eq (by omega) (by omega)).mp y
      omega
theorem m_firesl (hF : 3000 ≤ F) (hTT : y_T T) {t : Nat} (ht : t ≤ 5001) (Q : List Nat) (hQ : Q.Nodup) (hQ8 : ∀ c ∈ Q, c < y_many T 1) : ∀ (l : List Nat) (i N : Nat) (f k : List Nat) (S : y_S) (V : zV), Q.drop i = l → i ≤ Q.length → l.length + 1 ≤ N → y_mt T lv V → y_mg T (y_q S (k ++ Q.drop k.length)) V → k.length ≤ i → f.length ≤ i → y_cj t f S → (∀ d ∈ f, d < y_many T 1 ∧ ¬ d ∈ l) →
    ∃ V' f', fX12_fires_l6 F N V (nI f.length) (nI k.length) (nI i) = some (nI (y_fl T l f k S).1, V') ∧ y_mg T (y_fl T l f k S).2 V' ∧ y_fr [(0, 85)] [53, 54, 55] V V' ∧ y_cj t f' (y_fl T l f k S).2 ∧ (y_fl T l f k S).1 ≤ Q.length := by
  have h8 := hTT.2.1.2.1.2
  have hQl : Q.length ≤ 8 := by
    have := y_sub_len Q (List.range 8) hQ (fun x hx => List.mem_range.mpr (by have := hQ8 x hx; omega))
    rwa [List.length_range] at this
  intro l
  induction l with
  | nil =>
    intro i N f k S V e hi hN hT hg hk hf hJ hfl
    obtain ⟨N, rfl⟩ : ∃ N', N = N' + 1 := ⟨N - 1, by omega⟩
    have hie : i = Q.length := by
      have := List.drop_eq_nil_iff.mp e
      omega
    have e85 : zI V 0 85 = nI Q.length := by
      have := hg.2.2.2.2.2.2.1.1
      rw [this]
      show nI (k ++ Q.drop k.length).length = _
      rw [List.length_append, List.length_drop]
      congr 1; omega
    have f1 : y_fr [(0, 85)] [] V (zsI V 0 85 (nI k.length)) := y_fr_I y_fr_refl (by decide)
    rw [fX12_fires_l6, e85, if_pos (nI_le (by omega) (by omega)), y_let]
    refine ⟨_, f, rfl, ?_, y_fr_mono f1 (fun _ z => z) (fun _ z => absurd z List.not_mem_nil), hJ, by show f.length ≤ _; omega⟩
    show y_mg T (y_q (y_q S (k ++ Q.drop k.length)) k) _
    refine y_mg_q hg (y_fr_mono f1 (fun _ z => z) (fun _ z => absurd z List.not_mem_nil)) rfl fun j c hc => ?_
    refine hg.2.2.2.2.2.2.1.2 j c ?_
    show (k ++ Q.drop k.length)[j]? = some c
    rw [List.getElem?_append_left (List.getElem?_eq_some_iff.mp hc).1]; exact hc
  | cons c l ih =>
    intro i N f k S V e hi hN hT hg hk hf hJ hfl
    obtain ⟨N, rfl⟩ : ∃ N', N = N' + 1 := ⟨N - 1, by omega⟩
    have hlt : i < Q.length := by
      by_cases q : i < Q.length
      · exact q
      · rw [List.drop_eq_nil_iff.mpr (by omega)] at e; cases e
    have ei : Q[i]? = some c := by
      have : (Q.drop i)[0]? = some c := by rw [e]; rfl
      rw [List.getElem?_drop] at this; exact this
    have ed : Q.drop (i + 1) = l := by
      have : (Q.drop i).tail = l := by rw [e]; rfl
      rw [List.tail_drop] at this; exact this
    have hcQ : c ∈ Q := List.mem_of_getElem? ei
    have hcl : ¬ c ∈ l := by
      have : (c :: l).Nodup := by rw [← e]; exact hQ.sublist (List.drop_sublist _ _)
      exact (List.nodup_cons.mp this).1
    have hc1 := hQ8 c hcQ
    have hc8 : c < 8 := by omega
    have hcf : ¬ c ∈ f := fun z => (hfl c z).2 (List.mem_cons_self ..)
    have e85 : zI V 0 85 = nI Q.length := by
      have := hg.2.2.2.2.2.2.1.1
      rw [this]
      show nI (k ++ Q.drop k.length).length = _
      rw [List.length_append, List.length_drop]
      congr 1; omega
    have e55 : zA V 55 i = nI c := by
      refine hg.2.2.2.2.2.2.1.2 i c ?_
      show (k ++ Q.drop k.length)[i]? = some c
      rw [List.getElem?_append_right hk, List.getElem?_drop, show k.length + (i - k.length) = i by omega]; exact ei
    have e68 : zI V 0 68 = y_I S 0 10 := y_mg_at hg (r := 0) (k := 10) (k7 := 68) (by decide)
    have hlv := hT.1.1
    obtain ⟨cc, jj, ecc, ejj, hcj⟩ := hJ.2 c hc8
    have hcj := hcj.resolve_left (fun z => hcf z.1)
    have e54 : zA V 54 c = if y_R S 11 c = 0 then -1 else y_R S 12 c := hg.2.2.2.1 c hc8
    have e53 : zA V 53 c = y_R S 11 c := y_mg_r hg (r := 11) (r7 := 53) (n := 8) (by decide) hc8
    have e13 : zA V 13 (8 * lv + c) = zA T 3 c := hT.2.2.2.2.2.1.2.1 c hc1
    obtain ⟨A, hA, hA2, hcd, hap⟩ := hT.2.2.2.2.2.2.2
    have hcd8 : ∀ a, a < A → ∃ c d, c < 8 ∧ d < 8 ∧ zA V 14 (8 * lv + a) = nI c ∧ zA V 15 (8 * lv + a) = nI d := fun a ha => by
      obtain ⟨c, d, h1, h2, h3⟩ := hcd a ha
      exact ⟨c, d, by omega, by omega, h3⟩
    -- kept apart from one that fired now
    have hbad : (∃ a', 0 ≤ a' ∧ a' < A ∧ y_bad lv V c a') ↔ ¬ f.all (fun d => !y_apart T c d) = true := by
      rw [List.all_eq_true]
      constructor
      · rintro ⟨a, -, ha, hb⟩ z
        obtain ⟨c1, d1, h1, h2, e1, e2⟩ := hcd a ha
        unfold y_bad at hb
        rw [e1, e2, nI_clamp (by omega), nI_clamp (by omega), e68, hJ.1, y_cj_54 ht hJ hg (by omega), y_cj_54 ht hJ hg (by omega)] at hb
        rcases hb with ⟨b1, b2⟩ | ⟨b1, b2⟩
        · have := z d1 b2
          rw [(hap c d1 hc1 h2).mpr ⟨a, ha, Or.inl ⟨by rw [e1]; exact b1, e2⟩⟩] at this
          cases this
        · have := z c1 b2
          rw [(hap c c1 hc1 h1).mpr ⟨a, ha, Or.inr ⟨e1, by rw [e2]; exact b1⟩⟩] at this
          cases this
      · intro z
        have : ∃ d, d ∈ f ∧ y_apart T c d = true := by
          refine Classical.byContradiction fun y => z fun d hd => ?_
          cases q : y_apart T c d with
          | false => rfl
          | true => exact absurd ⟨d, hd, q⟩ y
        obtain ⟨d, hd, q⟩ := this
        have hd1 := (hfl d hd).1
        obtain ⟨a, ha, w⟩ := (hap c d hc1 hd1).mp q
        refine ⟨a, Nat.zero_le _, ha, ?_⟩
        unfold y_bad
        rw [e68, hJ.1]
        rcases w with ⟨w1, w2⟩ | ⟨w1, w2⟩
        · exact Or.inl ⟨w1, by rw [w2, nI_clamp (by omega)]; exact (y_cj_54 ht hJ hg (by omega)).mpr hd⟩
        · exact Or.inr ⟨w2, by rw [w1, nI_clamp (by omega)]; exact (y_cj_54 ht hJ hg (by omega)).mpr hd⟩
    have h68 : ∀ s0, fX12_fires_b68 F (fX12_fires_l6 F N) V (nI f.length) (nI k.length) (nI i) (nI c) s0 = fX12_fires_l79 F (fX12_fires_l6 F N) F V (nI f.length) (nI k.length) (nI i) (nI c) s0 (nI (8 * lv + 0)) := by
      intro s0
      rw [fX12_fires_b68, y_let, hT.1.2, show (8 : Int32) = nI 8 from rfl, pk_mul]; rfl
    have apl := fun fl => m_apl (F := F) hT hA hA2 hc8 hcd8 (k6 := fX12_fires_l6 F N) (x1 := nI f.length) (x2 := nI k.length) (x3 := nI i) A 0 F fl (by omega) (by omega)
    -- it fires, or it is kept
    have fire : f.all (fun d => !y_apart T c d) = true → (y_R S 11 c = 0 ∨ zA T 3 c ≤ y_I S 0 10 - y_R S 12 c) → ∃ V' f', fX12_fires_b63 F (fX12_fires_l6 F N) V (nI f.length) (nI k.length) (nI i) (nI c) = some (nI (y_fl T (c :: l) f k S).1, V') ∧ y_mg T (y_fl T (c :: l) f k S).2 V' ∧ y_fr [(0, 85)] [53, 54, 55] V V' ∧ y_cj t f' (y_fl T (c :: l) f k S).2 ∧ (y_fl T (c :: l) f k S).1 ≤ Q.length := by
      intro z1 z2
      rw [fX12_fires_b63, h68, (apl 1).2 (fun z => z.elim (by decide) (fun z => hbad.mp z z1)), y_fire, e53, e68, nI_1, nI_1, y_fl, if_pos ⟨z2, z1⟩]
      have g1 := y_mg_fire (s := c) hg ⟨cc, by omega, ecc⟩
      have f1 : y_fr [] [53, 54] V (zsA (zsA V 53 (upd (zA V 53) c (y_R S 11 c + 1))) 54 (upd (zA V 54) c (y_I S 0 10))) := y_fr_A (y_fr_A y_fr_refl (by decide)) (by decide)
      have j1 : y_cj t (f ++ [c]) (y_sR (y_sR S 11 c (y_R S 11 c + 1)) 12 c (y_I S 0 10)) := by
        refine ⟨hJ.1, fun d hd => ?_⟩
        show ∃ c' j', upd (zA S.1 11) c (y_R S 11 c + 1) d = nI c' ∧ upd (zA S.1 12) c (y_I S 0 10) d = nI j' ∧ _
        rw [y_upd, y_upd]
        by_cases q : d = c
        · rw [if_pos q, if_pos q, ecc, nI_1, hJ.1]
          exact ⟨cc + 1, t, rfl, rfl, Or.inl ⟨List.mem_append_right _ (by rw [q]; exact List.mem_singleton.mpr rfl), by omega, by omega, rfl⟩⟩
        · rw [if_neg q, if_neg q]
          obtain ⟨c', j', a1, a2, a3⟩ := hJ.2 d hd
          refine ⟨c', j', a1, a2, ?_⟩
          rcases a3 with a3 | a3
          · exact Or.inl ⟨List.mem_append_left _ a3.1, a3.2⟩
          · refine Or.inr ⟨fun z => ?_, a3.2⟩
            rcases List.mem_append.mp z with z | z
            · exact a3.1 z
            · exact q (List.mem_singleton.mp z)
      have hT1 := y_mt_fr hT f1 List.not_mem_nil (by decide)
      obtain ⟨V2, f', b1, b2, b3, b4, b5⟩ := ih (i + 1) N (f ++ [c]) k (y_sR (y_sR S 11 c (y_R S 11 c + 1)) 12 c (y_I S 0 10)) _ ed (by omega) (by have : l.length + 1 + 1 ≤ N + 1 := hN; omega) hT1 g1 (by omega) (by rw [List.length_append, List.length_singleton]; omega) j1 (fun d hd => by
        rcases List.mem_append.mp hd with z | z
        · exact ⟨(hfl d z).1, fun y => (hfl d z).2 (List.mem_cons_of_mem _ y)⟩
        · rw [List.mem_singleton.mp z]; exact ⟨hc1, hcl⟩)
      rw [List.length_append, List.length_singleton] at b1
      exact ⟨V2, f', b1, b2, y_fr_trans (y_fr_mono f1 (fun _ z => absurd z List.not_mem_nil) (by decide)) b3, b4, b5⟩
    have keep : ∀ s0, s0 = 0 ∨ (¬ f.all (fun d => !y_apart T c d) = true) → ¬ ((y_R S 11 c = 0 ∨ zA T 3 c ≤ y_I S 0 10 - y_R S 12 c) ∧ f.all (fun d => !y_apart T c d) = true) → ∃ V' f', fX12_fires_b68 F (fX12_fires_l6 F N) V (nI f.length) (nI k.length) (nI i) (nI c) s0 = some (nI (y_fl T (c :: l) f k S).1, V') ∧ y_mg T (y_fl T (c :: l) f k S).2 V' ∧ y_fr [(0, 85)] [53, 54, 55] V V' ∧ y_cj t f' (y_fl T (c :: l) f k S).2 ∧ (y_fl T (c :: l) f k S).1 ≤ Q.length := by
      intro s0 z1 z2
      rw [h68, (apl s0).1 (z1.imp id hbad.mpr), y_keep, y_ck (show k.length < 8 by omega) (by decide), nI_clamp (show k.length < 2 ^ 31 by omega), nI_1, nI_1, y_fl, if_neg z2]
      have f1 : y_fr [] [55] V (zsA V 55 (upd (zA V 55) k.length (nI c))) := y_fr_A y_fr_refl (by decide)
      have g1 : y_mg T (y_q S ((k ++ [c]) ++ Q.drop (k ++ [c]).length)) (zsA V 55 (upd (zA V 55) k.length (nI c))) := by
        refine y_mg_q (S := y_q S (k ++ Q.drop k.length)) hg (y_fr_mono f1 (fun _ z => absurd z List.not_mem_nil) (fun _ z => z)) ?_ fun j d hd => ?_
        · show zI V 0 85 = _
          rw [e85, List.length_append, List.length_drop, List.length_append, List.length_singleton]
          congr 1; omega
        · show upd (zA V 55) k.length (nI c) j = nI d
          rw [y_upd]
          by_cases q : j = k.length
          · rw [if_pos q]
            rw [q, List.getElem?_append_left (by rw [List.length_append, List.length_singleton]; omega), List.getElem?_append_right (Nat.le_refl _), Nat.sub_self] at hd
            cases hd; rfl
          · rw [if_neg q]
            refine hg.2.2.2.2.2.2.1.2 j d ?_
            show (k ++ Q.drop k.length)[j]? = some d
            by_cases q2 : j < k.length
            · rw [List.getElem?_append_left q2]
              rw [List.getElem?_append_left (by rw [List.length_append, List.length_singleton]; omega), List.getElem?_append_left q2] at hd
              exact hd
            · rw [List.getElem?_append_right (by omega), List.getElem?_drop]
              rw [List.getElem?_append_right (by rw [List.length_append, List.length_singleton]; omega), List.getElem?_drop, List.length_append, List.length_singleton] at hd
              rw [show k.length + (j - k.length) = k.length + 1 + (j - (k.length + 1)) by omega]
              exact hd
      have hT1 := y_mt_fr hT f1 List.not_mem_nil (by decide)
      obtain ⟨V2, f', b1, b2, b3, b4, b5⟩ := ih (i + 1) N f (k ++ [c]) S _ ed (by omega) (by have : l.length + 1 + 1 ≤ N + 1 := hN; omega) hT1 g1 (by rw [List.length_append, List.length_singleton]; omega) (by omega) hJ (fun d hd => ⟨(hfl d hd).1, fun y => (hfl d hd).2 (List.mem_cons_of_mem _ y)⟩)
      rw [List.length_append, List.length_singleton] at b1
      exact ⟨V2, f', b1, b2, y_fr_trans (y_fr_mono f1 (fun _ z => absurd z List.not_mem_nil) (by decide)) b3, b4, b5⟩
    rw [fX12_fires_l6, e85, if_neg (nI_ge (by omega) (by omega)), y_ck (by omega) (by decide), y_let]
    simp only [nI_clamp (show i < 2 ^ 31 by omega), e55, y_ck hc8 (by decide), nI_clamp (show c < 2 ^ 31 by omega), hT.1.2, show (8 : Int32) = nI 8 from rfl, pk_mul, nI_add, nI_clamp (show 8 * lv + c < 2 ^ 31 by omega), e13, e54, e68]
    rw [y_ck (show 8 * lv + c < 16 by omega) (by decide)]
    by_cases q6 : y_R S 11 c = 0
    · rw [if_pos q6, if_pos rfl]
      by_cases qa : f.all (fun d => !y_apart T c d) = true
      · exact fire qa (Or.inl q6)
      · exact keep 1 (Or.inr qa) (fun z => qa z.2)
    have h8' : ¬ y_R S 12 c = -1 := by
      rw [ejj]
      intro z
      have := nI_pos (n := jj) (by omega)
      rw [z] at this
      exact this (by decide)
    rw [if_neg q6, if_neg h8']
    by_cases q2 : zA T 3 c ≤ y_I S 0 10 - y_R S 12 c
    · rw [if_neg (Int32.not_lt.mpr q2)]
      by_cases qa : f.all (fun d => !y_apart T c d) = true
      · exact fire qa (Or.inr q2)
      · exact keep 1 (Or.inr qa) (fun z => qa z.2)
    · rw [if_pos (Int32.not_le.mp q2)]
      exact keep 0 (Or.inl rfl) (fun z => z.1.elim q6 q2)
/-- what fires leave as it was -/
theorem y_fl_kp (l : List Nat) : ∀ (f k : List Nat) (S : y_S), (∀ r j, y_I (y_fl T l f k S).2 r j = y_I S r j) ∧ (∀ r, ¬ r = 11 ∧ ¬ r = 12 → y_R (y_fl T l f k S).2 r = y_R S r) ∧ ((k ++ l).Nodup → (y_fl T l f k S).2.2.2.2.Nodup) ∧ ∀ c ∈ (y_fl T l f k S).2.2.2.2, c ∈ k ++ l := by
  induction l with
  | nil => intro f k S; exact ⟨fun _ _ => rfl, fun _ _ => rfl, fun h => by rw [List.append_nil] at h; exact h, fun c h => by rw [List.append_nil]; exact h⟩
  | cons c l ih =>
    intro f k S
    rw [y_fl]
    split
    · obtain ⟨a1, a2, a3, a4⟩ := ih (f ++ [c]) k (y_sR (y_sR S 11 c (y_R S 11 c + 1)) 12 c (y_I S 0 10))
      refine ⟨fun r j => a1 r j, fun r hr => (a2 r hr).trans ?_, fun h => a3 (h.sublist (List.Sublist.append_left (List.sublist_cons_self c l) k)), fun d hd => ?_⟩
      · show (if r = 12 then _ else if r = 11 then _ else zA S.1 r) = zA S.1 r
        rw [if_neg hr.2, if_neg hr.1]
      · rcases List.mem_append.mp (a4 d hd) with z | z
        · exact List.mem_append_left _ z
        · exact List.mem_append_right _ (List.mem_cons_of_mem _ z)
    · obtain ⟨a1, a2, a3, a4⟩ := ih f (k ++ [c]) S
      have e : k ++ [c] ++ l = k ++ c :: l := by rw [List.append_assoc]; rfl
      rw [e] at a3 a4
      exact ⟨a1, a2, a3, a4⟩
end
