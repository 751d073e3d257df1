/-! ===== ears: what they are ===== -/
section E1
variable {A C Lo : Nat → Nat → Prop} {B N G : Nat → Prop} {b s : Nat}
/-- the lowest with P -/
def lo1 (P : Nat → Prop) (t : Nat) : Prop := P t ∧ ∀ q, q < t → ¬ P q
theorem lo1_un {P : Nat → Prop} {t u : Nat} (h : lo1 P t) (h' : lo1 P u) : t = u := by
  rcases Nat.lt_trichotomy t u with e | e | e
  · exact absurd h.1 (h'.2 t e)
  · exact e
  · exact absurd h'.1 (h.2 u e)
theorem lo1_ex {P : Nat → Prop} {t : Nat} (h : P t) : ∃ u, lo1 P u := g_min h
theorem lo1_cong {P Q : Nat → Prop} {t : Nat} (h : ∀ q, P q ↔ Q q) : lo1 P t ↔ lo1 Q t := by
  rw [show P = Q from funext fun q => propext (h q)]
/-- a link of the block, but the first one of the ear -/
def xc (C : Nat → Nat → Prop) (b s p g : Nat) : Prop := C p g ∧ ¬ (p = s ∧ g = b)
/-- a goal by n links over posts that are not IN -/
def dl (C : Nat → Nat → Prop) (N G : Nat → Prop) (b s : Nat) : Nat → Nat → Prop
  | 0, _ => False
  | 1, p => ¬ N p ∧ ∃ g, G g ∧ xc C b s p g
  | n + 2, p => ¬ N p ∧ ∃ q, C p q ∧ dl C N G b s (n + 1) q
def fa (C : Nat → Nat → Prop) (N G : Nat → Prop) (b s n p : Nat) : Prop := dl C N G b s n p ∧ ∀ m, m < n → ¬ dl C N G b s m p
theorem dl_N {n p : Nat} (h : dl C N G b s n p) : ¬ N p := by
  match n, h with
  | 1, h => exact h.1
  | n + 2, h => exact h.1
theorem dl_C {n p : Nat} (h : dl C N G b s n p) : ∃ q, C p q := by
  match n, h with
  | 1, h => obtain ⟨_, g, _, k⟩ := h; exact ⟨g, k.1⟩
  | n + 2, h => obtain ⟨_, q, k, _⟩ := h; exact ⟨q, k⟩
theorem dl_st {n p q : Nat} (h : dl C N G b s n q) (hc : C p q) (hp : ¬ N p) : dl C N G b s (n + 1) p := by
  match n, h with
  | n + 1, h => exact ⟨hp, q, hc, h⟩
theorem fa_un {n m p : Nat} (h : fa C N G b s n p) (h' : fa C N G b s m p) : n = m := by
  rcases Nat.lt_trichotomy n m with e | e | e
  · exact absurd h.1 (h'.2 n e)
  · exact e
  · exact absurd h'.1 (h.2 m e)
theorem fa_ex {n p : Nat} (h : dl C N G b s n p) : ∃ m, fa C N G b s m p := g_min (P := fun n => dl C N G b s n p) h
theorem fa_pos {n p : Nat} (h : fa C N G b s n p) : 0 < n := by
  match n, h with
  | n + 1, _ => omega
theorem fa_next {n p : Nat} (h : fa C N G b s (n + 2) p) : ∃ q, C p q ∧ fa C N G b s (n + 1) q := by
  obtain ⟨⟨h1, q, h2, h3⟩, h4⟩ := h
  refine ⟨q, h2, h3, fun m hm hd => ?_⟩
  exact h4 (m + 1) (by omega) (dl_st hd h2 h1)
/-- no neighbour is nearer by more than one -/
theorem fa_nb {n m p q : Nat} (h : fa C N G b s n p) (hc : C p q) (h' : fa C N G b s m q) : n ≤ m + 1 := by
  refine Classical.byContradiction fun hlt => h.2 (m + 1) (by omega) (dl_st h'.1 hc (dl_N h.1))
theorem fa_7 (hC : ∀ p q, C p q → p < 8) {h : Nat} (hh : N h) (hh8 : h < 8) {n p : Nat} (hf : fa C N G b s n p) : n ≤ 7 := by
  have down : ∀ n p, fa C N G b s n p → ∀ j, 0 < j → j ≤ n → ∃ q, fa C N G b s j q := by
    intro n
    induction n with
    | zero => intro p _ j h1 h2; omega
    | succ n ih =>
      intro p hf j h1 h2
      by_cases e : j = n + 1
      · exact ⟨p, e ▸ hf⟩
      · cases n with
        | zero => omega
        | succ n =>
          obtain ⟨q, _, hq⟩ := fa_next hf
          exact ih q hq j h1 (by omega)
  have k : g_n (fun j => j < n) n ≤ g_n (fun v => v ≠ h) 8 := g_n_inj2 n (fun j q => fa C N G b s (j + 1) q) (fun a c v _ _ h1 h2 => by have := fa_un h1 h2; omega) 8 _ _ (fun j hj _ => by
    obtain ⟨q, hq⟩ := down n p hf (j + 1) (by omega) (by omega)
    obtain ⟨w, hw⟩ := dl_C hq.1
    exact ⟨q, hC q w hw, fun e => dl_N hq.1 (e ▸ hh), hq⟩)
  rw [g_n_below n (Nat.le_refl _)] at k
  have e := g_n_split (P := fun _ => True) (Q := fun v => v = h) 8
  have e1 : g_n (fun v => True ∧ v = h) 8 = 1 := g_n_one 8 h hh8 ⟨trivial, rfl⟩ (fun c _ hc => hc.2)
  have e2 : g_n (fun v => True ∧ ¬ v = h) 8 = g_n (fun v => v ≠ h) 8 := g_n_cong 8 (fun c _ => ⟨fun z => z.2, fun z => ⟨trivial, z⟩⟩)
  have e3 := g_n_bound (P := fun _ => True) 8
  omega
/-- the rest of an ear, from a on -/
def ep (C : Nat → Nat → Prop) (N G : Nat → Prop) (b s : Nat) : Nat → Nat → List Nat → Prop
  | 0, _, _ => False
  | 1, a, T => ∃ g, lo1 (fun g => G g ∧ xc C b s a g) g ∧ T = [g]
  | f + 2, a, T => ∃ q T', lo1 (fun q => C a q ∧ fa C N G b s (f + 1) q) q ∧ ep C N G b s (f + 1) q T' ∧ T = q :: T'
theorem ep_un : ∀ f a T T', ep C N G b s f a T → ep C N G b s f a T' → T = T'
  | 0, _, _, _, h, _ => h.elim
  | 1, a, T, T', ⟨g, h1, h2⟩, ⟨g', k1, k2⟩ => by rw [h2, k2, lo1_un h1 k1]
  | f + 2, a, T, T', ⟨q, S, h1, h2, h3⟩, ⟨q', S', k1, k2, k3⟩ => by
    have e := lo1_un h1 k1
    subst e
    rw [h3, k3, ep_un (f + 1) q S S' h2 k2]
theorem ep_ex : ∀ f a, fa C N G b s f a → ∃ T, ep C N G b s f a T
  | 0, _, h => h.1.elim
  | 1, a, h => by
    obtain ⟨_, g, h1, h2⟩ := h.1
    obtain ⟨u, hu⟩ := lo1_ex (P := fun g => G g ∧ xc C b s a g) ⟨h1, h2⟩
    exact ⟨[u], u, hu, rfl⟩
  | f + 2, a, h => by
    obtain ⟨q, q1, q2⟩ := fa_next h
    obtain ⟨u, hu⟩ := lo1_ex (P := fun q => C a q ∧ fa C N G b s (f + 1) q) ⟨q1, q2⟩
    obtain ⟨T, hT⟩ := ep_ex (f + 1) u hu.1.2
    exact ⟨u :: T, u, T, hu, hT, rfl⟩
/-- in a block of more than two each ear comes to an end -/
theorem ear_far (hA : ∀ a b, A a b → A b a) (hT : g_T A B) (hC : ∀ p q, C p q ↔ A p q ∧ B p ∧ B q) {w : Nat} (hw : B w) (hwb : w ≠ b) (hws : w ≠ s) (hb : N b) (hNB : ∀ p, N p → B p) (hs : ¬ N s) (hsB : B s) (hG : ∀ p, G p ↔ N p ∧ (p ≠ b ∨ ∀ q, N q → q = b)) : ∃ n, fa C N G b s n s := by
  have hbB := hNB b hb
  have hbs : b ≠ s := fun e => hs (e ▸ hb)
  suffices h : ∃ n, dl C N G b s n s by
    obtain ⟨n, hn⟩ := h
    exact fa_ex hn
  by_cases one : ∀ q, N q → q = b
  · have k1 := hT.2 s b w hbB hw hbs hws
    have p1 := g_ind (P := fun c => c = b ∨ ∃ n, dl C N G b s n c) k1 (Or.inl rfl) (by
      intro c d hc ih e hd
      by_cases hdb : d = b
      · exact Or.inl hdb
      · have hdN : ¬ N d := fun z => hdb (one d z)
        have hCdc : C d c := (hC d c).mpr ⟨hA _ _ e, hd.1, (g_in hc).1⟩
        rcases ih with ih | ⟨n, hn⟩
        · refine Or.inr ⟨1, hdN, c, (hG c).mpr ⟨ih ▸ hb, Or.inr one⟩, hCdc, fun z => hd.2 z.1⟩
        · exact Or.inr ⟨n + 1, dl_st hn hCdc hdN⟩)
    have p1 := p1.resolve_left hwb
    have k2 := hT.2 b w s hw hsB hwb (Ne.symm hbs)
    exact g_ind (P := fun c => ∃ n, dl C N G b s n c) k2 p1 (by
      intro c d hc ih e hd
      obtain ⟨n, hn⟩ := ih
      exact ⟨n + 1, dl_st hn ((hC d c).mpr ⟨hA _ _ e, hd.1, (g_in hc).1⟩) (fun z => hd.2 (one d z))⟩)
  · obtain ⟨g, hg⟩ := Classical.not_forall.mp one
    have hg1 : N g := Classical.byContradiction fun z => hg (fun k => absurd k z)
    have hg2 : g ≠ b := fun e => hg (fun _ => e)
    have k1 := hT.2 b g s (hNB g hg1) hsB hg2 (Ne.symm hbs)
    have p1 := g_ind (P := fun c => N c ∨ ∃ n, dl C N G b s n c) k1 (Or.inl hg1) (by
      intro c d hc ih e hd
      by_cases hdN : N d
      · exact Or.inl hdN
      · have hCdc : C d c := (hC d c).mpr ⟨hA _ _ e, hd.1, (g_in hc).1⟩
        rcases ih with ih | ⟨n, hn⟩
        · exact Or.inr ⟨1, hdN, c, (hG c).mpr ⟨ih, Or.inl (g_in hc).2⟩, hCdc, fun z => (g_in hc).2 z.2⟩
        · exact Or.inr ⟨n + 1, dl_st hn hCdc hdN⟩)
    exact p1.resolve_left hs
/-- one behind the other in a row -/
def cs : List Nat → Nat → Nat → Prop
  | a :: c :: t, p, q => (p = a ∧ q = c) ∨ cs (c :: t) p q
  | _, _, _ => False
/-- the links less those of an ear -/
def lz (Lo : Nat → Nat → Prop) (P : List Nat) : Nat → Nat → Prop := fun p q => Lo p q ∧ ¬ cs P p q ∧ ¬ cs P q p
/-- the first one that has a link in no ear -/
def fl (Lo : Nat → Nat → Prop) : List Nat → Nat → Prop
  | [], _ => False
  | a :: t, c => ((∃ q, Lo a q) ∧ c = a) ∨ ((∀ q, ¬ Lo a q) ∧ fl Lo t c)
theorem fl_un : ∀ I a c, fl Lo I a → fl Lo I c → a = c
  | [], _, _, h, _ => h.elim
  | x :: t, a, c, h, h' => by
    rcases h with ⟨⟨q, hq⟩, h⟩ | ⟨h1, h2⟩
    · rcases h' with ⟨_, h'⟩ | ⟨h1, _⟩
      · rw [h, h']
      · exact absurd hq (h1 q)
    · rcases h' with ⟨⟨q, hq⟩, _⟩ | ⟨_, h3⟩
      · exact absurd hq (h1 q)
      · exact fl_un t a c h2 h3
theorem fl_in : ∀ I c, fl Lo I c → c ∈ I ∧ ∃ q, Lo c q
  | [], _, h => h.elim
  | x :: t, c, h => by
    rcases h with ⟨h1, h2⟩ | ⟨_, h2⟩
    · rw [h2]; exact ⟨List.mem_cons_self .., h1⟩
    · have := fl_in t c h2
      exact ⟨List.mem_cons_of_mem _ this.1, this.2⟩
theorem fl_ex : ∀ I : List Nat, (∃ c, c ∈ I ∧ ∃ q, Lo c q) → ∃ c, fl Lo I c
  | [], ⟨c, h, _⟩ => by cases h
  | x :: t, ⟨c, h, q, hq⟩ => by
    by_cases hx : ∃ q, Lo x q
    · exact ⟨x, Or.inl ⟨hx, rfl⟩⟩
    · have hx' : ∀ q, ¬ Lo x q := fun q hq => hx ⟨q, hq⟩
      rcases List.mem_cons.mp h with e | e
      · exact absurd hq (hx' q |> fun z => e ▸ z)
      · obtain ⟨c', hc'⟩ := fl_ex t ⟨c, e, q, hq⟩
        exact ⟨c', Or.inr ⟨hx', hc'⟩⟩
/-- the goals of an ear that begins at b -/
def gl (I : List Nat) (b : Nat) : Nat → Prop := fun p => p ∈ I ∧ (p ≠ b ∨ ∀ q, q ∈ I → q = b)
/-- one ear -/
def ea (C : Nat → Nat → Prop) (m : Nat) (Lo : Nat → Nat → Prop) (I : List Nat) (P I' : List Nat) : Prop :=
  ∃ b s, fl Lo I b ∧ lo1 (Lo b) s ∧ ((s ∈ I ∧ P = [b, s] ∧ I' = I) ∨ (¬ s ∈ I ∧ m = 2 ∧ P = [b, s] ∧ I' = I ++ [s]) ∨ (¬ s ∈ I ∧ m ≠ 2 ∧ ∃ f T, fa C (fun p => p ∈ I) (gl I b) b s f s ∧ ep C (fun p => p ∈ I) (gl I b) b s f s T ∧ P = b :: s :: T ∧ I' = I ++ (s :: T.dropLast)))
theorem ea_un {m : Nat} {I P I' P2 I2 : List Nat} (h : ea C m Lo I P I') (h' : ea C m Lo I P2 I2) : P = P2 ∧ I' = I2 := by
  obtain ⟨b, s, h1, h2, h3⟩ := h
  obtain ⟨b', s', k1, k2, k3⟩ := h'
  have e := fl_un I b b' h1 k1
  subst e
  have e := lo1_un h2 k2
  subst e
  rcases h3 with ⟨a1, a2, a3⟩ | ⟨a1, a2, a3, a4⟩ | ⟨a1, a2, f, T, a3, a4, a5, a6⟩
  · rcases k3 with ⟨b1, b2, b3⟩ | ⟨b1, b2, b3, b4⟩ | ⟨b1, _⟩
    · exact ⟨a2.trans b2.symm, a3.trans b3.symm⟩
    · exact absurd a1 b1
    · exact absurd a1 b1
  · rcases k3 with ⟨b1, b2, b3⟩ | ⟨b1, b2, b3, b4⟩ | ⟨b1, b2, _⟩
    · exact absurd b1 a1
    · exact ⟨a3.trans b3.symm, a4.trans b4.symm⟩
    · exact absurd a2 b2
  · rcases k3 with ⟨b1, b2, b3⟩ | ⟨b1, b2, b3, b4⟩ | ⟨b1, b2, f', T', b3, b4, b5, b6⟩
    · exact absurd b1 a1
    · exact absurd b2 a2
    · have e := fa_un a3 b3
      subst e
      have e := ep_un f s T T' a4 b4
      subst e
      exact ⟨a5.trans b5.symm, a6.trans b6.symm⟩
/-- all ears -/
def er (C : Nat → Nat → Prop) (m : Nat) : Nat → (Nat → Nat → Prop) → List Nat → List (List Nat) → List (List Nat) → Prop
  | 0, _, _, _, _ => False
  | n + 1, Lo, I, E, R => ((∀ p q, ¬ Lo p q) ∧ R = E) ∨ ∃ P I', ea C m Lo I P I' ∧ er C m n (lz Lo P) I' (E ++ [P]) R
theorem ea_Lo {m : Nat} {I P I' : List Nat} (h : ea C m Lo I P I') : ∃ p q, Lo p q := by
  obtain ⟨b, s, _, h2, _⟩ := h
  exact ⟨b, s, h2.1⟩
theorem er_un {m : Nat} : ∀ n Lo I E R R', er C m n Lo I E R → er C m n Lo I E R' → R = R'
  | 0, _, _, _, _, _, h, _ => h.elim
  | n + 1, Lo, I, E, R, R', h, h' => by
    rcases h with ⟨a1, a2⟩ | ⟨P, I', a1, a2⟩
    · rcases h' with ⟨b1, b2⟩ | ⟨P, I', b1, b2⟩
      · rw [a2, b2]
      · obtain ⟨p, q, k⟩ := ea_Lo b1
        exact absurd k (a1 p q)
    · rcases h' with ⟨b1, b2⟩ | ⟨P2, I2, b1, b2⟩
      · obtain ⟨p, q, k⟩ := ea_Lo a1
        exact absurd k (b1 p q)
      · obtain ⟨e1, e2⟩ := ea_un a1 b1
        subst e1
        subst e2
        exact er_un n _ _ _ _ _ a2 b2
/-! what holds between ears -/
/-- links used so far, as pairs -/
noncomputable def uc (C Lo : Nat → Nat → Prop) : Nat := g_n (fun k => k / 8 < k % 8 ∧ C (k / 8) (k % 8) ∧ ¬ Lo (k / 8) (k % 8)) 64
noncomputable def tc (C : Nat → Nat → Prop) : Nat := g_n (fun k => k / 8 < k % 8 ∧ C (k / 8) (k % 8)) 64
/-- the state: I is IN, Lo the links in no ear -/
def EI (C Lo : Nat → Nat → Prop) (B : Nat → Prop) (I : List Nat) : Prop :=
  I.Nodup ∧ (∀ p, p ∈ I → B p) ∧ (∀ p q, Lo p q → C p q ∧ Lo q p) ∧ (∀ p q, C p q → ¬ p ∈ I → Lo p q) ∧ I ≠ []
theorem uc_le (h : ∀ p q, Lo p q → C p q) : uc C Lo ≤ tc C := g_n_le 64 (fun _ _ h => ⟨h.1, h.2.1⟩)
theorem uc_lt (hC : ∀ p q, C p q → C q p ∧ p < 8 ∧ q < 8 ∧ p ≠ q) (hs : ∀ p q, Lo p q → Lo q p) {p q : Nat} (hc : C p q) (hl : Lo p q) : uc C Lo < tc C := by
  have main : ∀ p q, p < q → C p q → Lo p q → uc C Lo < tc C := fun p q hpq hc hl => by
    have c := hC p q hc
    refine g_n_lt 64 (p * 8 + q) (by omega) (fun _ _ h => ⟨h.1, h.2.1⟩) ?_ ?_
    · rw [show (p * 8 + q) / 8 = p by omega, show (p * 8 + q) % 8 = q by omega]
      exact ⟨hpq, hc⟩
    · rw [show (p * 8 + q) / 8 = p by omega, show (p * 8 + q) % 8 = q by omega]
      exact fun z => z.2.2 hl
  have c := hC p q hc
  rcases Nat.lt_or_ge p q with e | e
  · exact main p q e hc hl
  · exact main q p (by omega) c.1 (hs p q hl)
theorem uc_go {Lo' : Nat → Nat → Prop} (hC : ∀ p q, C p q → C q p ∧ p < 8 ∧ q < 8 ∧ p ≠ q) (hs : ∀ p q, Lo p q → Lo q p) (hsub : ∀ p q, Lo' p q → Lo p q) {p q : Nat} (hc : C p q) (hl : Lo p q) (hn1 : ¬ Lo' p q) (hn2 : ¬ Lo' q p) : uc C Lo < uc C Lo' := by
  have main : ∀ p q, p < q → C p q → Lo p q → ¬ Lo' p q → uc C Lo < uc C Lo' := fun p q hpq hc hl hn => by
    have c := hC p q hc
    refine g_n_lt 64 (p * 8 + q) (by omega) (fun _ _ h => ⟨h.1, h.2.1, fun z => h.2.2 (hsub _ _ z)⟩) ?_ ?_
    · rw [show (p * 8 + q) / 8 = p by omega, show (p * 8 + q) % 8 = q by omega]
      exact ⟨hpq, hc, hn⟩
    · rw [show (p * 8 + q) / 8 = p by omega, show (p * 8 + q) % 8 = q by omega]
      exact fun z => z.2.2 hl
  have c := hC p q hc
  rcases Nat.lt_or_ge p q with e | e
  · exact main p q e hc hl hn1
  · exact main q p (by omega) c.1 (hs p q hl) hn2
/-- as long as a link is left, one that is IN has one -/
theorem EI_fl {I : List Nat} (hB : ∀ p q, C p q → C q p ∧ B p ∧ B q) (hconn : ∀ p q, B p → B q → g_C C B p q) (h : EI C Lo B I) {p q : Nat} (hl : Lo p q) : ∃ c, fl Lo I c := by
  obtain ⟨h1, h2, h3, h4, h5⟩ := h
  refine fl_ex I ?_
  by_cases hp : p ∈ I
  · exact ⟨p, hp, q, hl⟩
  · obtain ⟨x, t, rfl⟩ := List.exists_cons_of_ne_nil h5
    have hx : x ∈ x :: t := List.mem_cons_self ..
    have k := hconn p x (hB p q (h3 p q hl).1).2.1 (h2 x hx)
    have pr := g_ind (P := fun c => (∃ c, c ∈ x :: t ∧ ∃ q, Lo c q) ∨ ¬ c ∈ x :: t) k (Or.inr hp) (by
      intro c d _ ih e _
      rcases ih with ih | ih
      · exact Or.inl ih
      · by_cases hd : d ∈ x :: t
        · exact Or.inl ⟨d, hd, c, (h3 c d (h4 c d e ih)).2⟩
        · exact Or.inr hd)
    exact pr.resolve_right (fun z => z hx)
end E1
