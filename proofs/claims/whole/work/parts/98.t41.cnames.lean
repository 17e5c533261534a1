/-! ===== the class's names: its pieces ===== -/
section
variable {F : Nat} {b : Nat → Nat} {L N E : Nat} {V1 V3 : zV}
/-- tokens, names below i with their numbers -/
def r_nv (b : Nat → Nat) (L N E i : Nat) (V1 : zV) : Prop := (N = E + 1 ∧ E ≤ 1000) ∧ zI V1 0 4 = nI N ∧ (∀ j, j < N → zA V1 2 j = nI (r_tK b L j) ∧ zA V1 3 j = nI (r_tS b L j)) ∧
  ∀ j, j < N → zB V1 4 j = if j < i ∧ r_tK b L j = 27 then lN (r_nu b L E j) else r_tv b L j
def r_nl (l : List r_E) (V3 : zV) : Prop := zI V3 0 4 = nI l.length ∧ l.length ≤ 76 ∧ ∀ (k : Nat) (e : r_E), l[k]? = some e → zB V3 1 k = lN (r_pk 256 id 0 e.1) ∧ zA V3 2 k = nI e.2.1 ∧ zA V3 3 k = nI e.2.2 ∧ e.2.1 ≤ 7 ∧ e.2.2 ≤ 1000 ∧ r_an e.1 ∧ e.1.length ≤ 8
/-- the names of modes -/
def r_nd (b : Nat → Nat) (L E : Nat) (V3 : zV) : Prop := (∀ a, a < E → r_tK b L a = 7 → zB V3 5 (r_cn (r_tK b L) 7 a) = lN (r_pk 256 id 0 (r_tW b L (a + 1)))) ∧ ∀ k, r_cn (r_tK b L) 7 E ≤ k → k < 12 → zB V3 5 k = 0
theorem c_kat2 {i j : Nat} (h : r_nv b L N E i V1) (hj : j < N) : fX10_kindAt F V1 (nI j) = some (nI (r_tK b L j)) := by
  obtain ⟨⟨h1, h2⟩, h3, h4, -⟩ := h
  unfold fX10_kindAt
  rw [h3, if_neg (nI_pos (by omega)), if_neg (nI_ge hj (by omega)), y_ck (by omega) (by decide), nI_clamp (by omega), (h4 j hj).1]
theorem c_valj {i j : Nat} (h : r_nv b L N E i V1) (hj : j < N) : fX10_valueAt F V1 (nI j) = some (zB V1 4 j) := by
  obtain ⟨⟨h1, h2⟩, h3, h4, -⟩ := h
  unfold fX10_valueAt
  rw [h3, if_neg (nI_pos (by omega)), if_neg (nI_ge hj (by omega)), y_ck (by omega) (by decide), nI_clamp (by omega)]
theorem c_namej {i j : Nat} (h : r_nv b L N E i V1) (hj : j < N) (hij : i ≤ j) (hk : r_tK b L j = 27) : fX10_valueAt F V1 (nI j) = some (lN (r_pk 256 id 0 (r_tW b L j))) := by
  rw [c_valj h hj, h.2.2.2 j hj, if_neg (by omega)]
  unfold r_tv
  rw [if_pos hk]
theorem c_blm {i j f : Nat} (h : r_nv b L N E i V1) (h5 : zI V1 0 5 = 0) (hj : j < N) : fX10_blame F V1 (nI f) (nI j) = some (r_blm b L f j V1) := by
  obtain ⟨⟨h1, h2⟩, h3, h4, -⟩ := h
  have g : ∀ x, zA (zsI V1 0 5 x) 3 j = nI (r_tS b L j) := fun _ => (h4 j hj).2
  unfold fX10_blame
  rw [if_pos h5, h3, if_neg (nI_pos (by omega)), if_neg (nI_ge hj (by omega)), y_let, y_ck (by omega) (by decide), y_let, nI_clamp (by omega), g]; rfl
theorem c_setn {i c : Nat} (h : r_nv b L N E i V1) (hi : i < E) (hc : c < 2 ^ 31) (hk : r_tK b L i = 27) (hn : c = r_nu b L E i) : ∃ V1', fX10_setNumber F V1 (nI i) (nI c) = some V1' ∧ r_nv b L N E (i + 1) V1' ∧ (∀ k, zI V1' 0 k = zI V1 0 k) ∧ r_fq [] [] [4] V1 V1' := by
  obtain ⟨⟨h1, h2⟩, h3, h4, h5⟩ := h
  unfold fX10_setNumber
  rw [h3, if_neg (nI_pos (by omega)), if_neg (nI_ge (show i < N by omega) (by omega)), y_ck (by omega) (by decide), y_let, nI_clamp (by omega), nI_l hc]
  refine ⟨_, rfl, ⟨⟨h1, h2⟩, h3, h4, fun j hj => ?_⟩, fun _ => rfl, r_fq_B r_fq_refl (by decide)⟩
  show vp_updL (zB V1 4) i (lN c) j = _
  rw [y_updL]
  by_cases q : j = i
  · subst q; rw [if_pos rfl, if_pos ⟨by omega, hk⟩, hn]
  · rw [if_neg q, h5 j hj]
    by_cases q2 : j < i ∧ r_tK b L j = 27
    · rw [if_pos q2, if_pos ⟨by omega, q2.2⟩]
    · rw [if_neg q2, if_neg (fun z => q2 ⟨by omega, z.2⟩)]
theorem c_tellingl {l : List r_E} (h : r_nl l V3) {s : List Nat} (hs : r_an s) (h8 : s.length ≤ 8) : ∀ (m : List r_E) (k M : Nat), l.drop k = m → k ≤ l.length → m.length + 1 ≤ M →
    match r_fd m s with
      | some x => ∃ k' e, l[k']? = some e ∧ e.1 = s ∧ e.2 = x ∧ fX5_telling_l2 F M V3 (lN (r_pk 256 id 0 s)) (nI k) = some (nI k')
      | none => fX5_telling_l2 F M V3 (lN (r_pk 256 id 0 s)) (nI k) = some (-1) := by
  obtain ⟨n1, n2, n3⟩ := h
  intro m
  induction m with
  | nil =>
    intro k M hm hk hM
    obtain ⟨M, rfl⟩ : ∃ M', M = M' + 1 := ⟨M - 1, by omega⟩
    have hke := List.drop_eq_nil_iff.mp hm
    dsimp only [r_fd]
    rw [fX5_telling_l2, n1, if_pos (nI_le (by omega) (by omega))]
  | cons e m ih =>
    intro k M hm hk hM
    have hM : m.length + 1 + 1 ≤ M := hM
    obtain ⟨M, rfl⟩ : ∃ M', M = M' + 1 := ⟨M - 1, by omega⟩
    have hlt : k < l.length := by
      by_cases q : k < l.length
      · exact q
      · rw [List.drop_eq_nil_iff.mpr (by omega)] at hm; cases hm
    have ek : l[k]? = some e := by
      have : (l.drop k)[0]? = some e := by rw [hm]; rfl
      rw [List.getElem?_drop] at this; exact this
    have ed : l.drop (k + 1) = m := by
      have : (l.drop k).tail = m := by rw [hm]; rfl
      rw [List.tail_drop] at this; exact this
    obtain ⟨m1, m2, m3, m4, m5, m6, m7⟩ := n3 k e ek
    have next := ih (k + 1) M ed (by omega) (by omega)
    rw [fX5_telling_l2, n1, if_neg (nI_ge hlt (by omega)), if_neg (show ¬ (76 : Int32) ≤ nI k from nI_ge (b := 76) (by omega) (by decide)), y_ck (by omega) (by decide), nI_clamp (by omega), m1, r_fd, nI_1]
    by_cases q : e.1 = s
    · rw [if_pos q, if_pos ((lg_cmp_eq _ _).mpr (by rw [q]))]
      exact ⟨k, e, ek, q, rfl, rfl⟩
    · rw [if_neg q, if_neg (fun z => q ((r_pk_eq m6 hs).mp ((pk_lEQ (r_pk_256 m6 m7) (r_pk_256 hs h8)).mp ((lg_cmp_eq _ _).mp z))))]
      exact next
theorem c_telling {l : List r_E} (hF : 100 ≤ F) (h : r_nl l V3) {s : List Nat} (hs : r_an s) (h8 : s.length ≤ 8) : match r_fd l s with
      | some x => ∃ k' e, l[k']? = some e ∧ e.1 = s ∧ e.2 = x ∧ fX5_telling F V3 (lN (r_pk 256 id 0 s)) = some (nI k')
      | none => fX5_telling F V3 (lN (r_pk 256 id 0 s)) = some (-1) :=
  c_tellingl (F := F) h hs h8 l 0 F rfl (Nat.zero_le _) (by have := h.2.1; omega)
theorem r_tW_ne {j : Nat} (h : r_tK b L j = 27) : 0 < r_pk 256 id 0 (r_tW b L j) := by
  obtain ⟨t1, t2, t3⟩ := r_kd_27 (show r_kd b L (r_tS b L j) ≤ 27 by have : r_kd b L (r_tS b L j) = 27 := h; omega)
  have hl : 0 < (r_tW b L j).length := by unfold r_tW; rw [r_str_len]; have := r_te_le (b := b) t1; omega
  obtain ⟨ha, -⟩ := r_tW_ok h
  by_cases q : r_pk 256 id 0 (r_tW b L j) = 0
  · have : r_tW b L j = [] := (r_pk_eq ha (m := []) (fun c hc => by cases hc)).mp (by rw [q]; rfl)
    rw [this] at hl; exact absurd hl (Nat.lt_irrefl 0)
  · omega
/-- the first mode of a name -/
theorem c_modeNamed (hF : 100 ≤ F) (hd : r_nd b L E V3) (h12 : r_cn (r_tK b L) 7 E ≤ 12) (hm : ∀ a, a < E → r_tK b L a = 7 → r_tK b L (a + 1) = 27) {j : Nat} (hj : r_tK b L j = 27) :
    (∃ a, a < E ∧ r_tK b L a = 7 ∧ r_tW b L (a + 1) = r_tW b L j ∧ (∀ a', a' < a → r_tK b L a' = 7 → ¬ r_tW b L (a' + 1) = r_tW b L j) ∧ fX5_modeNamed F V3 (lN (r_pk 256 id 0 (r_tW b L j))) = some (nI (r_cn (r_tK b L) 7 a))) ∨
    ((∀ a, a < E → r_tK b L a = 7 → ¬ r_tW b L (a + 1) = r_tW b L j) ∧ fX5_modeNamed F V3 (lN (r_pk 256 id 0 (r_tW b L j))) = some (-1)) := by
  obtain ⟨ha, h8⟩ := r_tW_ok hj
  have hne := r_tW_ne hj
  have hlt := r_pk_256 ha h8
  have go : ∀ (n k M : Nat), k + n = 12 → n + 1 ≤ M → (∀ a, a < E → r_tK b L a = 7 → r_cn (r_tK b L) 7 a < k → ¬ r_tW b L (a + 1) = r_tW b L j) →
      (∃ a, a < E ∧ r_tK b L a = 7 ∧ r_tW b L (a + 1) = r_tW b L j ∧ (∀ a', a' < a → r_tK b L a' = 7 → ¬ r_tW b L (a' + 1) = r_tW b L j) ∧ fX5_modeNamed_l2 F M V3 (lN (r_pk 256 id 0 (r_tW b L j))) (nI k) = some (nI (r_cn (r_tK b L) 7 a))) ∨
      ((∀ a, a < E → r_tK b L a = 7 → ¬ r_tW b L (a + 1) = r_tW b L j) ∧ fX5_modeNamed_l2 F M V3 (lN (r_pk 256 id 0 (r_tW b L j))) (nI k) = some (-1)) := by
    intro n
    induction n with
    | zero =>
      intro k M hk hM hno
      obtain ⟨M, rfl⟩ : ∃ M', M = M' + 1 := ⟨M - 1, by omega⟩
      right
      refine ⟨fun a h1 h2 => hno a h1 h2 (by have := r_cn_lt (j := E) h1 h2; omega), ?_⟩
      rw [fX5_modeNamed_l2, if_pos (show (12 : Int32) ≤ nI k from nI_le (a := 12) (by omega) (by omega))]
    | succ n ih =>
      intro k M hk hM hno
      obtain ⟨M, rfl⟩ : ∃ M', M = M' + 1 := ⟨M - 1, by omega⟩
      rw [fX5_modeNamed_l2, if_neg (show ¬ (12 : Int32) ≤ nI k from nI_ge (b := 12) (by omega) (by decide)), y_ck (by omega) (by decide), nI_clamp (by omega), nI_1]
      by_cases q : k < r_cn (r_tK b L) 7 E
      · obtain ⟨a, a1, a2, a3⟩ := r_cn_at E k q
        have ea := hd.1 a a1 a2
        rw [a3] at ea
        have ka := hm a a1 a2
        obtain ⟨hb, hb8⟩ := r_tW_ok ka
        rw [ea]
        by_cases q2 : r_tW b L (a + 1) = r_tW b L j
        · rw [if_pos ((lg_cmp_eq _ _).mpr (by rw [q2]))]
          left
          exact ⟨a, a1, a2, q2, fun a' h1 h2 => hno a' (by omega) h2 (by have := r_cn_lt h1 h2; omega), by rw [a3]⟩
        · rw [if_neg (fun z => q2 ((r_pk_eq hb ha).mp ((pk_lEQ (r_pk_256 hb hb8) hlt).mp ((lg_cmp_eq _ _).mp z))))]
          refine ih (k + 1) M (by omega) (by omega) fun a' h1 h2 h3 => ?_
          by_cases q3 : r_cn (r_tK b L) 7 a' < k
          · exact hno a' h1 h2 q3
          · have : a' = a := by
              rcases Nat.lt_trichotomy a' a with y | y | y
              · have := r_cn_lt y h2; omega
              · exact y
              · have := r_cn_lt y a2; omega
            subst this; exact q2
      · rw [hd.2 k (by omega) (by omega), if_neg (fun z => by
          have z : (0 : Int64) = lN (r_pk 256 id 0 (r_tW b L j)) := (lg_cmp_eq _ _).mp z
          have := (pk_lEQ (a := 0) (b := r_pk 256 id 0 (r_tW b L j)) (by decide) hlt).mp z
          omega)]
        refine ih (k + 1) M (by omega) (by omega) fun a' h1 h2 h3 => hno a' h1 h2 (by have := r_cn_lt h1 h2; omega)
  exact go 12 0 F rfl (by omega) fun a h1 h2 h3 => by omega
end
