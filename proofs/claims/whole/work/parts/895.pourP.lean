/-! ===== pour: what holds of the tree and the water ===== -/
def qSib (w n : Nat) (ld : Nat → Bool) (σ : qLS) (l o c r : Nat) : Prop := (o < qN σ ∧ c < qN σ ∧ l < c ∧ o < c ∧ o ≠ l) ∧ (qW σ l = nI c ∧ qW σ o = nI c ∧ qM σ l = nI r ∧ qM σ o = nI r ∧ r < n ∧ ld r = true) ∧ ((qA σ c = nI l ∧ qB σ c = nI o) ∨ (qA σ c = nI o ∧ qB σ c = nI l)) ∧ (qsub (qF σ) l c ∧ qsub (qF σ) o c ∧ qdis (qF σ) l o) ∧ (∀ x, x < qN σ → x ≠ c → qsub (qF σ) x c → qsub (qF σ) x l ∨ qsub (qF σ) x o) ∧ ∃ k, k < 4 ∧ ∃ g, nbr w n ld r k = some g ∧ qF σ o g = true
section POURP
variable {w n m : Nat} {ld : Nat → Bool} {ht : Nat → Int32} {dn we : Nat → Int32} {σ : qLS} {th : Nat → Bool} {wa : Nat → Int32} {V : Nat → Bool}
theorem sib_of (hz : Sz w n ld) (hI : qInv w n ld dn σ ld) (hN : qN σ ≤ 35) {l : Nat} (hl : l < qN σ) (h5 : ¬ qW σ l = -5) : ∃ o c r, qSib w n ld σ l o c r := by
  obtain ⟨i1, i2, i3, i4, i5, i6, i7, i8, i9⟩ := id hI
  rcases i3 l hl with c | c | ⟨c, o, r, c1, c2, c3, c4, c5, c6, c7, c8, c9, c10, c11, c12⟩
  · exact absurd c.1 (no_top hz hI l hl)
  · exact absurd c.1 h5
  · have hnb : ∃ k, k < 4 ∧ ∃ g, nbr w n ld r k = some g ∧ qF σ o g = true := by
      rcases i3 o c4 with d | d | ⟨c', o', r', d1, d2, d3, d4, d5, d6, d7, d8, d9, d10, d11, d12⟩
      · rw [d.1] at c6; exact absurd c6.symm (nI_n3 (by omega))
      · rw [d.1] at c6; exact absurd c6.symm (nI_n5 (by omega))
      · have hn := hz.2.2.1
        rw [c7] at d8
        have := nI_inj (by omega) (by omega) d8
        rw [this]
        exact d12
    rcases i4 c c2 with e | ⟨a, b, e1, e2, e3, e4, e5, e6, e7, e8, e9, e10⟩
    · exfalso
      rcases c11 with ⟨f1, -⟩ | ⟨f1, -⟩
      · rw [e.1] at f1; exact nI_n3 (by omega) f1.symm
      · rw [e.1] at f1; exact nI_n3 (by omega) f1.symm
    · rcases c11 with ⟨f1, f2⟩ | ⟨f1, f2⟩
      · have g1 : a = l := nI_inj (by omega) (by omega) (e3.symm.trans f1)
        have g2 : b = o := nI_inj (by omega) (by omega) (e4.symm.trans f2)
        subst g1
        subst g2
        exact ⟨b, c, r, ⟨c4, c2, c1, e2, c5⟩, ⟨c3, c6, c8, c7, c9, c10⟩, Or.inl ⟨f1, f2⟩, ⟨e7, e8, e9⟩, e10, hnb⟩
      · have g1 : a = o := nI_inj (by omega) (by omega) (e3.symm.trans f1)
        have g2 : b = l := nI_inj (by omega) (by omega) (e4.symm.trans f2)
        subst g1
        subst g2
        exact ⟨a, c, r, ⟨c4, c2, c1, by omega, c5⟩, ⟨c3, c6, c8, c7, c9, c10⟩, Or.inr ⟨f1, f2⟩, ⟨e8, e7, e9.sy⟩, fun x x1 x2 x3 => (e10 x x1 x2 x3).symm, hnb⟩
theorem sib_one (hN : qN σ ≤ 35) {l o c r v c' r' : Nat} (h : qSib w n ld σ l o c r) (h' : qSib w n ld σ v l c' r') : v = o := by
  obtain ⟨⟨a1, a2, a3, a4, a5⟩, ⟨a6, -⟩, a7, -⟩ := h
  obtain ⟨⟨b1, b2, b3, b4, b5⟩, ⟨-, b6, -⟩, b7, -⟩ := h'
  have e : c' = c := nI_inj (by omega) (by omega) (b6.symm.trans a6)
  subst e
  rcases a7 with ⟨p1, p2⟩ | ⟨p1, p2⟩
  · rcases b7 with ⟨q1, q2⟩ | ⟨q1, q2⟩
    · exact absurd (nI_inj (by omega) (by omega) (p1.symm.trans q1)) b5
    · exact nI_inj (by omega) (by omega) (q2.symm.trans p2)
  · rcases b7 with ⟨q1, q2⟩ | ⟨q1, q2⟩
    · exact nI_inj (by omega) (by omega) (q1.symm.trans p1)
    · exact absurd (nI_inj (by omega) (by omega) (p1.symm.trans q1)) a5
/-- a way stays in a ground, to a hollow -/
theorem way_in (hz : Sz w n ld) (hI : qInv w n ld dn σ ld) (hd : ∀ f, ld f = true → Dn ht (nbr w n ld f) f (dn f) ∧ WE n dn we f) {l : Nat} (hl : l < qN σ) : ∀ f, ld f = true → qF σ l f = true → ∃ z, we f = nI z ∧ z < n ∧ ld z = true ∧ dn z = -3 ∧ qF σ l z = true := by
  refine lw_ind hz.2.2.2.2 (ht := ht) (fun f hf ih hF => ?_)
  have hfn := hz.2.2.2.2 f hf
  obtain ⟨d1, w1, w2, w3⟩ := hd f hf
  obtain ⟨j1, j2⟩ := hI.2.2.2.2.2.1 l hl f hF
  rcases Dn_cases hz hfn d1 with e | e | ⟨a, a1, a2, a3, a4⟩
  · exact absurd e j1
  · exact ⟨f, w1 e, hfn, hf, e, hF⟩
  · rw [w3 a a1 a3]
    exact ih a a2 a4 (j2 a a1 a3)
theorem way_end (hz : Sz w n ld) (hd : ∀ f, ld f = true → Dn ht (nbr w n ld f) f (dn f) ∧ WE n dn we f) : ∀ f, ld f = true → we f = -5 ∨ ∃ z, we f = nI z ∧ z < n ∧ ld z = true ∧ dn z = -3 := by
  refine lw_ind hz.2.2.2.2 (ht := ht) (fun f hf ih => ?_)
  have hfn := hz.2.2.2.2 f hf
  obtain ⟨d1, w1, w2, w3⟩ := hd f hf
  rcases Dn_cases hz hfn d1 with e | e | ⟨a, a1, a2, a3, a4⟩
  · exact Or.inl (w2 e)
  · exact Or.inr ⟨f, w1 e, hfn, hf, e⟩
  · rw [w3 a a1 a3]
    exact ih a a2 a4
/-- grains that go over come into the other part -/
theorem over_in (hI : qInv w n ld dn σ ld) (hW : WatI n ld ht dn σ th wa) {l o c r x z : Nat} (hl : l < qN σ) (hS : qSib w n ld σ l o c r) (tl : th l = true) (hx : x < qN σ) (tx : th x = true) (hz : qF σ x z = true) (hzo : qF σ o z = true) : qsub (qF σ) x o := by
  obtain ⟨i1, i2, i3, i4, i5, -⟩ := hI
  obtain ⟨⟨a1, a2, a3, a4, a5⟩, ⟨b1, b2, -⟩, -, ⟨c1, c2, c3⟩, -⟩ := hS
  by_cases e : x = o
  · subst e; exact qsub.rf
  rcases i2.1 x o hx a1 e with q | q | q
  · exact absurd ⟨hz, hzo⟩ (q z)
  · exact q
  · exfalso
    have hxl : x ≠ l := fun e2 => by rw [e2] at hz; exact c3 z ⟨hz, hzo⟩
    have h2 := i5 o c x a1 a2 b2 hx e q
    exact (hW.1 l x hl hx (Ne.symm hxl) tl tx).no (i2.2.2.2 l hl) qsub.rf (c1.tr h2)
/-- lakes that grains have left -/
def VisI (w n : Nat) (ld : Nat → Bool) (ht : Nat → Int32) (σ : qLS) (th : Nat → Bool) (wa : Nat → Int32) (V : Nat → Bool) (cur : Nat) : Prop := ∀ v, v < qN σ → V v = true → (th v = true ∧ wa v = moF n ht σ v ∧ ∃ o c r, qSib w n ld σ v o c r ∧ qsub (qF σ) cur o) ∨ (th v = false ∧ ∃ x, x < qN σ ∧ th x = true ∧ qsub (qF σ) v x)
theorem vis_not (hI : qInv w n ld dn σ ld) {l : Nat} (hl : l < qN σ) (tl : th l = true) (h : VisI w n ld ht σ th wa V l) : V l = false := by
  cases e : V l with
  | false => rfl
  | true =>
    exfalso
    rcases h l hl e with ⟨-, -, o, c, r, hS, hs⟩ | ⟨q, -⟩
    · exact (hS.2.2.2.1.2.2).no (hI.2.1.2.2.2 l hl) qsub.rf hs
    · rw [tl] at q; cases q
theorem vis_wa {l : Nat} {x : Int32} (hV : V l = false) (h : VisI w n ld ht σ th wa V l) : VisI w n ld ht σ th (va_up wa l x) V l := by
  intro v hv hVv
  have : v ≠ l := fun e => by rw [e, hV] at hVv; cases hVv
  rw [va_up_ne _ _ this]
  exact h v hv hVv
def vadd (V : Nat → Bool) (l : Nat) : Nat → Bool := fun v => if v = l then true else V v
theorem vadd_c {l v : Nat} (h : vadd V l v = true) : v = l ∨ (v ≠ l ∧ V v = true) := by
  unfold vadd at h
  by_cases e : v = l
  · exact Or.inl e
  · rw [if_neg e] at h; exact Or.inr ⟨e, h⟩
theorem vadd_ct {l N : Nat} (hl : l < N) (hV : V l = false) : fb_ct (vadd V l) N = fb_ct V N + 1 ∧ fb_ct V N < N := by
  have u := fb_ct_upd V true hl
  rw [hV, if_neg (by decide), if_pos rfl, Nat.add_zero] at u
  have u' : fb_ct (vadd V l) N = fb_ct V N + 1 := u
  have := fb_ct_le (vadd V l) N
  exact ⟨u', by omega⟩
theorem vis_over (hI : qInv w n ld dn σ ld) (hN : qN σ ≤ 35) {l o c r x : Nat} (hl : l < qN σ) (tl : th l = true) (fl : wa l = moF n ht σ l) (hS : qSib w n ld σ l o c r) (hno : ¬ (th o = true ∧ wa o = moF n ht σ o)) (hx : qsub (qF σ) x o) (h : VisI w n ld ht σ th wa V l) : VisI w n ld ht σ th wa (vadd V l) x := by
  intro v hv hVv
  rcases vadd_c hVv with e | ⟨e, hV⟩
  · subst e
    exact Or.inl ⟨tl, fl, o, c, r, hS, hx⟩
  · rcases h v hv hV with ⟨t1, t2, o', c', r', hS', hs⟩ | q
    · refine Or.inl ⟨t1, t2, o', c', r', hS', ?_⟩
      by_cases q : l = o'
      · exfalso
        subst q
        have := sib_one hN hS hS'
        rw [this] at t1 t2
        exact hno ⟨t1, t2⟩
      · have h2 := hI.2.2.2.2.1 l c o' hl hS.1.2.1 hS.2.1.1 hS'.1.1 (Ne.symm q) hs
        exact hx.tr (hS.2.2.2.1.2.1.tr h2)
    · exact Or.inr q
/-- two parts go, their double is there -/
def jth (th : Nat → Bool) (l o c : Nat) : Nat → Bool := fun v => if v = c then true else if v = l then false else if v = o then false else th v
def jwa (wa : Nat → Int32) (l o c : Nat) : Nat → Int32 := fun v => if v = o then 0 else if v = l then 0 else if v = c then wa l + wa o else wa v
theorem vis_join (hI : qInv w n ld dn σ ld) (hN : qN σ ≤ 35) (hW : WatI n ld ht dn σ th wa) {l o c r : Nat} (hl : l < qN σ) (tl : th l = true) (to : th o = true) (hS : qSib w n ld σ l o c r) (h : VisI w n ld ht σ th wa V l) : VisI w n ld ht σ (jth th l o c) (jwa wa l o c) (vadd V l) c := by
  obtain ⟨⟨a1, a2, a3, a4, a5⟩, ⟨b1, b2, -⟩, b3, ⟨c1, c2, c3⟩, c4, -⟩ := id hS
  have nc : th c = false := by
    cases e : th c with
    | false => rfl
    | true =>
      exfalso
      exact (hW.1 l c hl a2 (by omega) tl e).no (hI.2.1.2.2.2 l hl) qsub.rf c1
  have tc : jth th l o c c = true := if_pos rfl
  have tl' : jth th l o c l = false := by unfold jth; rw [if_neg (by omega), if_pos rfl]
  have to' : jth th l o c o = false := by unfold jth; rw [if_neg (by omega), if_neg a5, if_pos rfl]
  have tn : ∀ v, v ≠ c → v ≠ l → v ≠ o → jth th l o c v = th v := fun v h1 h2 h3 => by unfold jth; rw [if_neg h1, if_neg h2, if_neg h3]
  intro v hv hVv
  rcases vadd_c hVv with e | ⟨e, hV⟩
  · subst e
    exact Or.inr ⟨tl', c, a2, tc, c1⟩
  · by_cases eo : v = o
    · subst eo
      exact Or.inr ⟨to', c, a2, tc, c2⟩
    rcases h v hv hV with ⟨t1, t2, o', c', r', hS', hs⟩ | ⟨t1, x, x1, x2, x3⟩
    · have ec : v ≠ c := fun q => by rw [q, nc] at t1; cases t1
      refine Or.inl ⟨by rw [tn v ec e eo]; exact t1, ?_, o', c', r', hS', ?_⟩
      · unfold jwa; rw [if_neg eo, if_neg e, if_neg ec]; exact t2
      · have q : l ≠ o' := fun q => by
          subst q
          exact eo (sib_one hN hS hS')
        exact hI.2.2.2.2.1 l c o' hl a2 b1 hS'.1.1 (Ne.symm q) hs
    · have ec : v ≠ c := fun q => by
        rw [q] at x3
        by_cases r : x = l
        · rw [r] at x3
          exact hI.2.1.2.2.1 l c hl a2 (by omega) c1 x3
        · exact (hW.1 l x hl x1 (Ne.symm r) tl x2).no (hI.2.1.2.2.2 l hl) qsub.rf (c1.tr x3)
      refine Or.inr ⟨by rw [tn v ec e eo]; exact t1, ?_⟩
      by_cases r1 : x = l
      · exact ⟨c, a2, tc, x3.tr (by rw [r1]; exact c1)⟩
      by_cases r2 : x = o
      · exact ⟨c, a2, tc, x3.tr (by rw [r2]; exact c2)⟩
      by_cases r3 : x = c
      · exact ⟨c, a2, tc, by rw [← r3]; exact x3⟩
      · exact ⟨x, x1, by rw [tn x r3 r1 r2]; exact x2, x3⟩
theorem wat_fill (hW : WatI n ld ht dn σ th wa) {l : Nat} {x : Int32} (hx : 0 ≤ x.toInt ∧ x.toInt ≤ (moF n ht σ l).toInt) : WatI n ld ht dn σ th (va_up wa l x) := by
  refine ⟨hW.1, hW.2.1, fun v hv => ?_⟩
  by_cases e : v = l
  · subst e; rw [va_up_self]; exact hx
  · rw [va_up_ne _ _ e]; exact hW.2.2 v hv
theorem wat_join (hz : Sz w n ld) (hh : Hts n ld ht) (hT : TreeP w n ld ht dn σ) (hW : WatI n ld ht dn σ th wa) {l o c r : Nat} (hl : l < qN σ) (tl : th l = true) (to : th o = true) (fl : wa l = moF n ht σ l) (fo : wa o = moF n ht σ o) (hS : qSib w n ld σ l o c r) : WatI n ld ht dn σ (jth th l o c) (jwa wa l o c) := by
  obtain ⟨⟨a1, a2, a3, a4, a5⟩, ⟨b1, b2, -⟩, b3, ⟨c1, c2, c3⟩, c4, -⟩ := id hS
  obtain ⟨hI, hN, hx, hX⟩ := hT
  have tn : ∀ v, jth th l o c v = true → v = c ∨ (v ≠ c ∧ v ≠ l ∧ v ≠ o ∧ th v = true) := by
    intro v hv
    unfold jth at hv
    by_cases e1 : v = c
    · exact Or.inl e1
    rw [if_neg e1] at hv
    by_cases e2 : v = l
    · rw [if_pos e2] at hv; cases hv
    rw [if_neg e2] at hv
    by_cases e3 : v = o
    · rw [if_pos e3] at hv; cases hv
    rw [if_neg e3] at hv
    exact Or.inr ⟨e1, e2, e3, hv⟩
  have key : ∀ x, x < qN σ → x ≠ c → x ≠ l → x ≠ o → th x = true → qdis (qF σ) c x := by
    intro x hx' x1 x2 x3 tx
    rcases hI.2.1.1 c x a2 hx' (Ne.symm x1) with q | q | q
    · exact q
    · exfalso
      exact (hW.1 l x hl hx' (Ne.symm x2) tl tx).no (hI.2.1.2.2.2 l hl) qsub.rf (c1.tr q)
    · exfalso
      rcases c4 x hx' x1 q with s | s
      · exact (hW.1 l x hl hx' (Ne.symm x2) tl tx).no (hI.2.1.2.2.2 x hx') s qsub.rf
      · exact (hW.1 o x a1 hx' (Ne.symm x3) to tx).no (hI.2.1.2.2.2 x hx') s qsub.rf
  refine ⟨fun a b ha hb hab t1 t2 => ?_, fun z z1 z2 => ?_, fun v hv => ?_⟩
  · rcases tn a t1 with p | ⟨p1, p2, p3, p4⟩ <;> rcases tn b t2 with q | ⟨q1, q2, q3, q4⟩
    · omega
    · subst p; exact key b hb q1 q2 q3 q4
    · subst q; exact (key a ha p1 p2 p3 p4).sy
    · exact hW.1 a b ha hb hab p4 q4
  · obtain ⟨v, v1, v2, v3⟩ := hW.2.1 z z1 z2
    by_cases e1 : v = l
    · exact ⟨c, a2, if_pos rfl, c1 z (by rw [← e1]; exact v3)⟩
    by_cases e2 : v = o
    · exact ⟨c, a2, if_pos rfl, c2 z (by rw [← e2]; exact v3)⟩
    refine ⟨v, v1, ?_, v3⟩
    unfold jth
    by_cases e3 : v = c
    · rw [if_pos e3]
    · rw [if_neg e3, if_neg e1, if_neg e2]; exact v2
  · have e0 : (0 : Int32).toInt = 0 := rfl
    obtain ⟨-, -, -, -, -, p5, p6⟩ := mo_int hz hh hI hv
    unfold jwa
    by_cases e1 : v = o
    · rw [if_pos e1, e0]; omega
    rw [if_neg e1]
    by_cases e2 : v = l
    · rw [if_pos e2, e0]; omega
    rw [if_neg e2]
    by_cases e3 : v = c
    · rw [if_pos e3]
      have hj := mo_join hz hh hI hN hX hl a1 a2 b1 b2 c1 c2 c3
      obtain ⟨-, -, -, -, -, l5, l6⟩ := mo_int hz hh hI hl
      obtain ⟨-, -, -, -, -, o5, o6⟩ := mo_int hz hh hI a1
      rw [fl, fo, fb_addI (by omega) (by omega), e3]
      omega
    · rw [if_neg e3]; exact hW.2.2 v hv
end POURP
