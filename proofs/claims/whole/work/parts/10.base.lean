def inR {α : Type} (x : Int32) (n : Nat) (Y : Option α) : Option α := if x < 0 ∨ n ≤ x.toNatClampNeg then none else Y
theorem inR_some {α : Type} {x : Int32} {n : Nat} {Y : Option α} {o : α} (h : inR x n Y = some o) : vp_in x n ∧ Y = some o := by
  unfold inR at h
  by_cases hc : x < 0 ∨ n ≤ x.toNatClampNeg
  · rw [if_pos hc] at h; cases h
  · rw [if_neg hc] at h; exact ⟨hc, h⟩
def imin (x y : Int32) : Int32 := if y < x then y else x
def imax (x y : Int32) : Int32 := if x < y then y else x
/-- the fuel of every loop -/
def fu : Nat := 5000
theorem nosome {α : Type} {o : α} {P : Prop} (h : (none : Option α) = some o) : P := by cases h
theorem its {c : Prop} [Decidable c] {α : Type} {X Y o : α} {P : Prop} (h : (if c then X else Y) = o) (KT : c → X = o → P) (KF : ¬ c → Y = o → P) : P := by
  by_cases hc : c
  · rw [if_pos hc] at h; exact KT hc h
  · rw [if_neg hc] at h; exact KF hc h
/-! ===== the walk's own words: worlds as lists of segments, one context for a frame ===== -/
abbrev ty4 (cy : Nat → ClassId) : List (ClassId × FieldType) := [(cy 0, .int), (cy 1, .long), (cy 2, .boolean), (cy 3, .object RX3)]
/-- the nest mates' words of the whole claim -/
def nw_ok (U : State) : Prop :=
  va_Nw (.methodLinkNest RX8 21 yX7_init "ArcOrder") U ∧ va_Nw (.methodLinkNest RX8 28 yX0_init "ArcOrder") U ∧ va_Nw (.methodLinkNest RX8 42 yX2_init "ArcOrder") U ∧ va_Nw (.methodLinkNest RX8 49 yX5_init "ArcOrder") U ∧ va_Nw (.methodLinkNest RX8 56 yX6_init "ArcOrder") U ∧ va_Nw (.methodLinkNest RX8 63 yX1_init "ArcOrder") U ∧ va_Nw (.methodLinkNest RX3 48 yX8_holdsBit "ArcOrder") U ∧ va_Nw (.methodLinkNest RX1 46 yX8_holdsBit "ArcOrder") U ∧ va_Nw (.methodLinkNest RX5 46 yX8_codeOf "ArcOrder") U ∧ va_AO RX3 U
theorem nw_ok.warm {s U : State} (hW : s.WarmedH U.vm) (h : nw_ok s) : nw_ok U := by
  obtain ⟨h1, h2, h3, h4, h5, h6, h7, h8, h9, h10⟩ := h
  exact ⟨h1.warmM hW, h2.warmM hW, h3.warmM hW, h4.warmM hW, h5.warmM hW, h6.warmM hW, h7.warmM hW, h8.warmM hW, h9.warmM hW, h10.moved hW.alike⟩
theorem nw_ok.same {u U : State} (h : u.vm = U.vm) (hz : nw_ok u) : nw_ok U := by
  obtain ⟨h1, h2, h3, h4, h5, h6, h7, h8, h9, h10⟩ := hz
  exact ⟨h1.same rfl h, h2.same rfl h, h3.same rfl h, h4.same rfl h, h5.same rfl h, h6.same rfl h, h7.same rfl h, h8.same rfl h, h9.same rfl h, h10.moved (by rw [h]; exact Vm.Alike.refl _)⟩
/-! lists of segments -/
theorem vaP_perm {D : va_G} {cl : List vw_C} {w1 w2 : va_W} {H : Heap} (hp : ∀ q, q ∈ w2 → q ∈ w1) (h : va_P D cl w1 H) : va_P D cl w2 H := by
  intro k q hk
  obtain ⟨i, hi⟩ := List.getElem?_of_mem (hp q (List.mem_of_getElem? hk))
  exact h i q hi
theorem vaP_mem {D : va_G} {cl : List vw_C} {w : va_W} {H : Heap} (h : va_P D cl w H) {q : Nat × va_E} (hq : q ∈ w) : va_at D cl q H := by
  obtain ⟨i, hi⟩ := List.getElem?_of_mem hq
  exact h i q hi
theorem vaP_of {D : va_G} {cl : List vw_C} {w : va_W} {H : Heap} (h : ∀ q, q ∈ w → va_at D cl q H) : va_P D cl w H := fun _ q hk => h q (List.mem_of_getElem? hk)
theorem vaD_iff {A : Nat → Prop} {w : va_W} : va_D A w ↔ (w.map Prod.fst).Nodup ∧ ∀ q, q ∈ w → A q.1 := by
  constructor
  · intro h
    refine ⟨?_, fun q hq => ?_⟩
    · show List.Pairwise _ _
      rw [List.pairwise_iff_getElem]
      intro i j hi hj hij hc
      rw [List.getElem_map, List.getElem_map] at hc
      rw [List.length_map] at hi hj
      have := h.1 i j _ _ (List.getElem?_eq_getElem hi) (List.getElem?_eq_getElem hj) hc
      omega
    · obtain ⟨i, hi⟩ := List.getElem?_of_mem hq
      exact h.2 i q hi
  · intro h
    refine ⟨fun i j p q hi hj hpq => ?_, fun k q hk => h.2 q (List.mem_of_getElem? hk)⟩
    have hn : List.Pairwise (fun a b => a ≠ b) (w.map Prod.fst) := h.1
    rw [List.pairwise_iff_getElem] at hn
    obtain ⟨l1, e1⟩ := List.getElem?_eq_some_iff.mp hi
    obtain ⟨l2, e2⟩ := List.getElem?_eq_some_iff.mp hj
    have m1 : i < (w.map Prod.fst).length := by rw [List.length_map]; exact l1
    have m2 : j < (w.map Prod.fst).length := by rw [List.length_map]; exact l2
    have f1 : (w.map Prod.fst)[i] = p.1 := by rw [List.getElem_map, e1]
    have f2 : (w.map Prod.fst)[j] = q.1 := by rw [List.getElem_map, e2]
    rcases Nat.lt_trichotomy i j with h3 | h3 | h3
    · exact absurd (by rw [f1, f2, hpq]) (hn i j m1 m2 h3)
    · exact h3
    · exact absurd (by rw [f1, f2, hpq]) (hn j i m2 m1 h3)
theorem vaD_perm {A : Nat → Prop} {w1 w2 : va_W} (hp : w1.Perm w2) (h : va_D A w1) : va_D A w2 := by
  rw [vaD_iff] at h ⊢
  exact ⟨(hp.map Prod.fst).nodup_iff.mp h.1, fun q hq => h.2 q (hp.mem_iff.mpr hq)⟩
def cellAt (sg : List va_W) (i j : Nat) : Option (Nat × va_E) := (sg[i]?).bind (fun w => w[j]?)
def setCell (sg : List va_W) (i j : Nat) (q : Nat × va_E) : List va_W := match sg, i with
  | [], _ => []
  | w :: r, 0 => w.set j q :: r
  | w :: r, i + 1 => w :: setCell r i j q
theorem cellAt_flat : ∀ (sg : List va_W) (i j : Nat) (q : Nat × va_E), cellAt sg i j = some q → ∃ k, sg.flatten[k]? = some q ∧ ∀ q', sg.flatten.set k q' = (setCell sg i j q').flatten
  | [], i, j, q, h => by simp [cellAt] at h
  | w :: r, 0, j, q, h => by
    have h1 : w[j]? = some q := h
    have hl := (List.getElem?_eq_some_iff.mp h1).1
    refine ⟨j, ?_, fun q' => ?_⟩
    · rw [List.flatten_cons, List.getElem?_append_left hl]; exact h1
    · rw [List.flatten_cons, List.set_append_left _ _ hl]; rfl
  | w :: r, i + 1, j, q, h => by
    obtain ⟨k, h1, h2⟩ := cellAt_flat r i j q h
    refine ⟨w.length + k, ?_, fun q' => ?_⟩
    · rw [List.flatten_cons, List.getElem?_append_right (by omega), show w.length + k - w.length = k by omega]; exact h1
    · rw [List.flatten_cons, List.set_append_right _ _ (by omega), show w.length + k - w.length = k by omega, h2]; rfl
def sgPut : List va_W → List Nat → List va_W → List va_W
  | sg, k :: ks, c :: cs => sgPut (sg.set k c) ks cs
  | sg, _, _ => sg
def sgPick (sg : List va_W) (ks : List Nat) : List va_W := ks.filterMap (fun k => sg[k]?)
theorem flat_set : ∀ (sg : List va_W) (k : Nat) (c : va_W), k < sg.length → (sg.set k c).flatten.Perm (c ++ (sg.set k []).flatten)
  | [], k, c, h => by simp at h
  | w :: r, 0, c, h => by simp
  | w :: r, k + 1, c, h => by
    have ih := flat_set r k c (by simpa using h)
    rw [List.set_cons_succ, List.set_cons_succ, List.flatten_cons, List.flatten_cons]
    refine (List.Perm.append_left w ih).trans ?_
    rw [← List.append_assoc, ← List.append_assoc]
    exact List.Perm.append_right _ List.perm_append_comm
theorem set_same {α : Type} : ∀ (l : List α) (k : Nat) (a : α), l[k]? = some a → l.set k a = l
  | [], _, _, _ => rfl
  | b :: l, 0, a, h => by simp at h; simp [h]
  | b :: l, k + 1, a, h => by rw [List.set_cons_succ, set_same l k a (by simpa using h)]
theorem flat_get (sg : List va_W) (k : Nat) (c : va_W) (h : sg[k]? = some c) : sg.flatten.Perm (c ++ (sg.set k []).flatten) := by
  have h1 := flat_set sg k c (List.getElem?_eq_some_iff.mp h).1
  rwa [set_same sg k c h] at h1
/-- the picked segments and a rest that no put-back touches -/
theorem flat_pick : ∀ (ks : List Nat) (sg cs : List va_W), ks.Nodup → ks.map (fun k => sg[k]?) = cs.map some →
    ∃ r : va_W, sg.flatten.Perm (cs.flatten ++ r) ∧ ∀ cs' : List va_W, cs'.length = cs.length → (sgPut sg ks cs').flatten.Perm (cs'.flatten ++ r)
  | [], sg, cs, _, h => by
    have : cs = [] := by simpa using h.symm
    subst this
    refine ⟨sg.flatten, by simp, fun cs' h => ?_⟩
    have : cs' = [] := by simpa using h
    subst this
    simp [sgPut]
  | k :: ks, sg, cs, hn, h => by
    cases cs with
    | nil => simp at h
    | cons c cs =>
      simp only [List.map_cons, List.cons.injEq] at h
      obtain ⟨h1, h2⟩ := h
      rw [List.nodup_cons] at hn
      have hk := (List.getElem?_eq_some_iff.mp h1).1
      have h3 : ∀ x : va_W, ks.map (fun k => (sg.set k x)[k]?) = ks.map (fun k => (sg.set k x)[k]?) := fun _ => rfl
      have h4 : ∀ x : va_W, ks.map (fun j => (sg.set k x)[j]?) = cs.map some := by
        intro x
        rw [← h2]
        refine List.map_congr_left fun j hj => ?_
        rw [List.getElem?_set_ne]
        intro e
        subst e
        exact hn.1 hj
      obtain ⟨r, e1, e2⟩ := flat_pick ks (sg.set k []) cs hn.2 (h4 [])
      refine ⟨r, ?_, fun cs' hl => ?_⟩
      · rw [List.flatten_cons, List.append_assoc]
        exact (flat_get sg k c h1).trans (List.Perm.append_left c e1)
      · cases cs' with
        | nil => simp at hl
        | cons c' cs' =>
          show (sgPut (sg.set k c') ks cs').flatten.Perm _
          have e3 := e2 cs' (by simpa using hl)
          have e4 : sgPut (sg.set k c') ks cs' = (sgPut (sg.set k []) ks cs').set k c' := by
            have gen : ∀ (ks : List Nat) (cs' : List va_W) (l : List va_W), k ∉ ks → sgPut (l.set k c') ks cs' = (sgPut (l.set k []) ks cs').set k c' := by
              intro ks
              induction ks with
              | nil => intro cs' l _; simp [sgPut]
              | cons a as ih =>
                intro cs' l hk
                cases cs' with
                | nil => simp [sgPut]
                | cons d ds =>
                  have hne : k ≠ a := fun e => hk (by rw [e]; exact List.mem_cons_self)
                  show sgPut ((l.set k c').set a d) as ds = (sgPut ((l.set k []).set a d) as ds).set k c'
                  rw [List.set_comm _ _ hne, List.set_comm _ _ hne]
                  exact ih ds (l.set a d) (fun h => hk (List.mem_cons_of_mem _ h))
            exact gen ks cs' sg hn.1
          rw [e4, List.flatten_cons, List.append_assoc]
          have len : ∀ (ks : List Nat) (cs' l : List va_W), (sgPut l ks cs').length = l.length := by
            intro ks
            induction ks with
            | nil => intro cs' l; simp [sgPut]
            | cons a as ih =>
              intro cs' l
              cases cs' with
              | nil => simp [sgPut]
              | cons d ds => show (sgPut (l.set a d) as ds).length = _; rw [ih, List.length_set]
          have blank : ∀ (ks : List Nat) (cs' l : List va_W), k ∉ ks → l[k]? = some [] → (sgPut l ks cs')[k]? = some [] := by
            intro ks
            induction ks with
            | nil => intro cs' l _ h; simpa [sgPut] using h
            | cons a as ih =>
              intro cs' l hk h
              cases cs' with
              | nil => simpa [sgPut] using h
              | cons d ds =>
                refine ih ds (l.set a d) (fun h => hk (List.mem_cons_of_mem _ h)) ?_
                rw [List.getElem?_set_ne (fun e => hk (by rw [e]; exact List.mem_cons_self))]
                exact h
          have hb := blank ks cs' (sg.set k []) hn.1 (List.getElem?_set_self hk)
          refine (flat_set _ k c' (by rw [len, List.length_set]; exact hk)).trans ?_
          rw [set_same _ k [] hb]
          exact List.Perm.append_left c' e3
/-- the frame rule over segments -/
theorem sg_join {A : Nat → Prop} {D : va_G} {sg cs cs' : List va_W} {H H1 : Heap} (ks : List Nat) (hn : ks.Nodup) (hk : ks.map (fun k => sg[k]?) = cs.map some) (hlen : cs'.length = cs.length) (hP : va_P D vwCl sg.flatten H) (hD : va_D A sg.flatten)
    (hfr : ∀ q : Nat, q < H.size → ¬ va_A cs.flatten H.size q → H1[q]? = H[q]?) (hF : ∀ q, va_A cs.flatten H.size q → A q) (hP1 : va_P D vwCl cs'.flatten H1) (hD1 : va_D (va_A cs.flatten H.size) cs'.flatten) :
    va_P D vwCl (sgPut sg ks cs').flatten H1 ∧ va_D A (sgPut sg ks cs').flatten := by
  obtain ⟨r, e1, e2⟩ := flat_pick ks sg cs hn hk
  have e3 := e2 cs' hlen
  have hD0 := vaD_iff.mp (vaD_perm e1 hD)
  have hPr : ∀ q, q ∈ r → va_at D vwCl q H := fun q hq => vaP_mem hP (e1.mem_iff.mpr (List.mem_append_right _ hq))
  have apart : ∀ q, q ∈ r → ¬ va_A cs.flatten H.size q.1 := by
    intro q hq h
    rcases h with ⟨k, e, h⟩ | h
    · have h2 := hD0.1
      rw [List.map_append, List.nodup_append] at h2
      exact h2.2.2 q.1 (List.mem_map.mpr ⟨(q.1, e), List.mem_of_getElem? h, rfl⟩) q.1 (List.mem_map.mpr ⟨q, hq, rfl⟩) rfl
    · exact absurd (hPr q hq).lt (Nat.not_lt.mpr h)
  have hD1' := vaD_iff.mp hD1
  refine ⟨vaP_of fun q hq => ?_, vaD_perm e3.symm (vaD_iff.mpr ⟨?_, fun q hq => ?_⟩)⟩
  · rcases List.mem_append.mp (e3.mem_iff.mp hq) with h | h
    · exact vaP_mem hP1 h
    · exact (hPr q h).kept (hfr q.1 (hPr q h).lt (apart q h))
  · rw [List.map_append, List.nodup_append]
    have h2 := hD0.1
    rw [List.map_append, List.nodup_append] at h2
    refine ⟨hD1'.1, h2.2.1, fun a ha b hb hab => ?_⟩
    obtain ⟨x, hx, rfl⟩ := List.mem_map.mp ha
    obtain ⟨y, hy, rfl⟩ := List.mem_map.mp hb
    exact apart y hy (by rw [← hab]; exact hD1'.2 x hx)
  · rcases List.mem_append.mp hq with h | h
    · exact hF _ (hD1'.2 q h)
    · exact hD0.2 q (List.mem_append_right _ h)
/-! the context of a frame, what it knows, where it is -/
abbrev GX : Type := Program × Launch × Env × Room × State × MethodId × Array Value × List Frame × Method × Code × Nat × va_G × (Nat → Prop) × (State → Prop)
abbrev gl (G : GX) : Launch := G.2.1
abbrev gD (G : GX) : va_G := G.2.2.2.2.2.2.2.2.2.2.2.1
def Go (G : GX) (a b pc : Nat) (lv : List (Nat × Value)) (st : List Value) (sg : List va_W) : Prop := match G with
  | (p, l, e, R, s, m, args, below, meth, c, nL, D, A, Q) => ∀ (H : Heap) (locs : List Loc) (ls : Array Slot), va_P D vwCl sg.flatten H → va_D A sg.flatten → va_S A s.heap H locs → lv_has ls nL lv → W p l e R s m args below meth c H locs a b Q (F0 m pc ls st)
def Fx (G : GX) (cc : ByteArray) (Ts : List Cond) (own : String) (cy : Nat → ClassId) (nM : Nat) (rm : Room) : Prop := match G with
  | (p, l, e, R, s, m, args, below, meth, c, nL, D, A, Q) => p.tables.exec = Jvm.exec ∧ c.code = cc ∧ c.maxLocals = nL ∧ s.vm.findClass own = some m.cls ∧ (∀ w ∈ Ts, w.before args s = true) ∧ va_K D vwCl (ty4 cy) s ∧ nw_ok s ∧ meth.locks = false ∧ (∀ q, s.heap.size ≤ q → A q) ∧ R = rm ∧ nL = nM
def cPre (D : va_G) (cy : Nat → ClassId) (sg : List va_W) (sz : Nat) (vs : List Value) : Array Value → State → Prop := va_Pc vs (fun U => U.heap.size = sz ∧ va_P D vwCl sg.flatten U.heap ∧ va_K D vwCl (ty4 cy) U ∧ va_D (fun _ => True) sg.flatten ∧ nw_ok U)
def cPost (D : va_G) (rv : Option Value) (X : List va_W → Prop) (A : Nat → Prop) : Array Value → State → Outcome → State → Prop := fun _ st oc t => (oc = .returned rv ∧ ∃ sg, X sg ∧ va_P D vwCl sg.flatten t.heap ∧ va_D A sg.flatten) ∧ va_F A st t
/-- a method's contract: from the world sg with the arguments vs it returns rv, with a world of X -/
def OKx (l : Launch) (D : va_G) (cy : Nat → ClassId) (y : MethodName) (ws : List Cond) (rm : Room) (vs : List Value) (sg : List va_W) (rv : Option Value) (X : List va_W → Prop) (mc ms : Nat) : Prop := ∀ sz, Met l y ws rm (cPre D cy sg sz vs) (cPost D rv X (va_A sg.flatten sz)) mc ms (va_A sg.flatten sz)
abbrev OK (l : Launch) (D : va_G) (cy : Nat → ClassId) (y : MethodName) (ws : List Cond) (rm : Room) (vs : List Value) (sg : List va_W) (rv : Option Value) (sg' : List va_W) : Prop := OKx l D cy y ws rm vs sg rv (fun z => z = sg') 0 0
def Rx (G : GX) (nm : String) (ret : Option FieldType) (rv : Option Value) (X : List va_W → Prop) (mc ms : Nat) : Prop := match G with
  | (p, l, e, R, s, m, args, below, meth, c, nL, D, A, Q) => meth.sig.returnType = ret ∧ meth.name = nm ∧ Q = MQ below (cPost D rv X A) args s mc ms A
theorem OKx.of {l : Launch} {D : va_G} {cy : Nat → ClassId} {y : MethodName} {ws ws' : List Cond} {rm : Room} {vs : List Value} {sg : List va_W} {rv : Option Value} {X : List va_W → Prop} {mc ms : Nat} {cc : ByteArray} {maxL : Nat} {ret : Option FieldType} (hy : plainName y.cls = true) (hw : ws = Cond.code y cc maxL ret :: ws') (hl : (lg_sl vs).length ≤ maxL)
    (body : ∀ G, Fx G cc ws y.cls cy maxL rm → Rx G y.name ret rv X mc ms → Go G 0 0 0 (lv_args 0 vs) [] sg) : OKx l D cy y ws rm vs sg rv X mc ms := by
  intro sz
  refine Met.ofW (cc := cc) (maxL := maxL) (ret := ret) hy hw ?_
  intro p e s m args below meth c s₁ B hml hv
  obtain ⟨rfl, hsz, hP, hK, hD0, hN⟩ := hv
  subst hsz
  have hts := atoms_spec (ws := ws) B.pre
  have hown : s.vm.findClass y.cls = some m.cls := findClass_of_methodNamed B.named
  have key := body (p, l, e, (headSpec ws rm).room, s, m, vs.toArray, below, meth, c, maxL, D, va_A sg.flatten s.heap.size, MQ below (cPost D rv X (va_A sg.flatten s.heap.size)) vs.toArray s mc ms (va_A sg.flatten s.heap.size))
    ⟨B.exec, B.bytes, hml, hown, hts, hK, hN, B.notSynchronized, fun q h => Or.inr h, rfl, rfl⟩ ⟨B.returns, (name_of_methodNamed B.named B.method).1, rfl⟩
  rw [lg_entry_eq]
  exact key s.heap [] _ hP (hD0.self (sz := s.heap.size)) va_S.rf (lv_entry vs hl)
section GO
variable {G : GX} {cc : ByteArray} {Ts : List Cond} {own : String} {cy : Nat → ClassId} {nM : Nat} {rm : Room} {a b pc : Nat} {lv lv' : List (Nat × Value)} {st : List Value} {sg sg' : List va_W}
theorem Go.sub (ks : List Nat) (hl : lv_pick lv ks = lv') (K : Go G a b pc lv' st sg) : Go G a b pc lv st sg := by
  obtain ⟨p, l, e, R, s, m, args, below, meth, c, nL, D, A, Q⟩ := G
  intro H locs ls hP hD hS h
  exact K H locs ls hP hD hS (lv_sub h ks hl)
theorem Go.world (hs : sg.flatten = sg'.flatten) (K : Go G a b pc lv st sg') : Go G a b pc lv st sg := by
  obtain ⟨p, l, e, R, s, m, args, below, meth, c, nL, D, A, Q⟩ := G
  intro H locs ls hP hD hS h
  exact K H locs ls (by rw [← hs]; exact hP) (by rw [← hs]; exact hD) hS h
theorem g_iconst (F : Fx G cc Ts own cy nM rm) {n : Int} {v : Int32} (hd : decode cc pc = .ok (.iconst n, 1)) (hv : Int32.ofInt n = v) (K : Go G a b (pc + 1) lv (.int v :: st) sg) : Go G a b pc lv (st) sg := by
  obtain ⟨p, l, e, R, s, m, args, below, meth, c, nL, D, A, Q⟩ := G
  obtain ⟨hx, hb, hml, hown, hts, hK, hN, hlk, hA, hR, hnL⟩ := F
  intro H locs ls hP hD hS hl
  exact lv_iconst hx hb hd hv (K H locs ls hP hD hS hl)
theorem g_bipush (F : Fx G cc Ts own cy nM rm) {n : Int} {v : Int32} (hd : decode cc pc = .ok (.bipush n, 2)) (hv : (Int8.ofInt n).toInt32 = v) (K : Go G a b (pc + 2) lv (.int v :: st) sg) : Go G a b pc lv (st) sg := by
  obtain ⟨p, l, e, R, s, m, args, below, meth, c, nL, D, A, Q⟩ := G
  obtain ⟨hx, hb, hml, hown, hts, hK, hN, hlk, hA, hR, hnL⟩ := F
  intro H locs ls hP hD hS hl
  exact lv_bipush hx hb hd hv (K H locs ls hP hD hS hl)
theorem g_sipush (F : Fx G cc Ts own cy nM rm) {n : Int} {v : Int32} (hd : decode cc pc = .ok (.sipush n, 3)) (hv : (Int16.ofInt n).toInt32 = v) (K : Go G a b (pc + 3) lv (.int v :: st) sg) : Go G a b pc lv (st) sg := by
  obtain ⟨p, l, e, R, s, m, args, below, meth, c, nL, D, A, Q⟩ := G
  obtain ⟨hx, hb, hml, hown, hts, hK, hN, hlk, hA, hR, hnL⟩ := F
  intro H locs ls hP hD hS hl
  exact lv_sipush hx hb hd hv (K H locs ls hP hD hS hl)
theorem g_lconst (F : Fx G cc Ts own cy nM rm) {n : Fin 2} {v : Int64} (hd : decode cc pc = .ok (.lconst n, 1)) (hv : Int64.ofNat (n : Nat) = v) (K : Go G a b (pc + 1) lv (.long v :: st) sg) : Go G a b pc lv (st) sg := by
  obtain ⟨p, l, e, R, s, m, args, below, meth, c, nL, D, A, Q⟩ := G
  obtain ⟨hx, hb, hml, hown, hts, hK, hN, hlk, hA, hR, hnL⟩ := F
  intro H locs ls hP hD hS hl
  exact lv_lconst hx hb hd hv (K H locs ls hP hD hS hl)
theorem g_iload_n (F : Fx G cc Ts own cy nM rm) {k : Fin 4} {i : Nat} {x : Int32} (hd : decode cc pc = .ok (.iload_n k, 1)) (hi : (k : Nat) = i) (q : Nat) (hq : lv[q]? = some (i, .int x)) (K : Go G a b (pc + 1) lv (.int x :: st) sg) : Go G a b pc lv (st) sg := by
  obtain ⟨p, l, e, R, s, m, args, below, meth, c, nL, D, A, Q⟩ := G
  obtain ⟨hx, hb, hml, hown, hts, hK, hN, hlk, hA, hR, hnL⟩ := F
  intro H locs ls hP hD hS hl
  exact lv_iload_n hx hb hd hi (lv_at hl q hq) (K H locs ls hP hD hS hl)
theorem g_iload (F : Fx G cc Ts own cy nM rm) {i : Nat} {x : Int32} (hd : decode cc pc = .ok (.iload i, 2)) (q : Nat) (hq : lv[q]? = some (i, .int x)) (K : Go G a b (pc + 2) lv (.int x :: st) sg) : Go G a b pc lv (st) sg := by
  obtain ⟨p, l, e, R, s, m, args, below, meth, c, nL, D, A, Q⟩ := G
  obtain ⟨hx, hb, hml, hown, hts, hK, hN, hlk, hA, hR, hnL⟩ := F
  intro H locs ls hP hD hS hl
  exact lv_iload hx hb hd (lv_at hl q hq) (K H locs ls hP hD hS hl)
theorem g_istore_n (F : Fx G cc Ts own cy nM rm) {k : Fin 4} {i : Nat} {x : Int32} (hd : decode cc pc = .ok (.istore_n k, 1)) (hi : (k : Nat) = i) (hn : i < nM) (hq : (i, Value.int x) :: lv.filter (fun q => !(q.1 == i) && !(q.1 + 1 == i && q.2.category == 2)) = lv') (K : Go G a b (pc + 1) lv' st sg) : Go G a b pc lv (.int x :: st) sg := by
  obtain ⟨p, l, e, R, s, m, args, below, meth, c, nL, D, A, Q⟩ := G
  obtain ⟨hx, hb, hml, hown, hts, hK, hN, hlk, hA, hR, hnL⟩ := F
  intro H locs ls hP hD hS hl
  subst hnL
  exact lv_istore_n hx hb hd hi hl hn hq (fun ls hl => K H locs ls hP hD hS hl)
theorem g_istore (F : Fx G cc Ts own cy nM rm) {i : Nat} {x : Int32} (hd : decode cc pc = .ok (.istore i, 2)) (hn : i < nM) (hq : (i, Value.int x) :: lv.filter (fun q => !(q.1 == i) && !(q.1 + 1 == i && q.2.category == 2)) = lv') (K : Go G a b (pc + 2) lv' st sg) : Go G a b pc lv (.int x :: st) sg := by
  obtain ⟨p, l, e, R, s, m, args, below, meth, c, nL, D, A, Q⟩ := G
  obtain ⟨hx, hb, hml, hown, hts, hK, hN, hlk, hA, hR, hnL⟩ := F
  intro H locs ls hP hD hS hl
  subst hnL
  exact lv_istore hx hb hd hl hn hq (fun ls hl => K H locs ls hP hD hS hl)
theorem g_lload_n (F : Fx G cc Ts own cy nM rm) {k : Fin 4} {i : Nat} {x : Int64} (hd : decode cc pc = .ok (.lload_n k, 1)) (hi : (k : Nat) = i) (q : Nat) (hq : lv[q]? = some (i, .long x)) (K : Go G a b (pc + 1) lv (.long x :: st) sg) : Go G a b pc lv (st) sg := by
  obtain ⟨p, l, e, R, s, m, args, below, meth, c, nL, D, A, Q⟩ := G
  obtain ⟨hx, hb, hml, hown, hts, hK, hN, hlk, hA, hR, hnL⟩ := F
  intro H locs ls hP hD hS hl
  exact lv_lload_n hx hb hd hi (lv_at hl q hq) (K H locs ls hP hD hS hl)
theorem g_lload (F : Fx G cc Ts own cy nM rm) {i : Nat} {x : Int64} (hd : decode cc pc = .ok (.lload i, 2)) (q : Nat) (hq : lv[q]? = some (i, .long x)) (K : Go G a b (pc + 2) lv (.long x :: st) sg) : Go G a b pc lv (st) sg := by
  obtain ⟨p, l, e, R, s, m, args, below, meth, c, nL, D, A, Q⟩ := G
  obtain ⟨hx, hb, hml, hown, hts, hK, hN, hlk, hA, hR, hnL⟩ := F
  intro H locs ls hP hD hS hl
  exact lv_lload hx hb hd (lv_at hl q hq) (K H locs ls hP hD hS hl)
theorem g_lstore_n (F : Fx G cc Ts own cy nM rm) {k : Fin 4} {i : Nat} {x : Int64} (hd : decode cc pc = .ok (.lstore_n k, 1)) (hi : (k : Nat) = i) (hn : i + 1 < nM) (hq : (i, Value.long x) :: lv.filter (fun q => !(q.1 == i) && (!(q.1 == i + 1) && !(q.1 + 1 == i && q.2.category == 2))) = lv') (K : Go G a b (pc + 1) lv' st sg) : Go G a b pc lv (.long x :: st) sg := by
  obtain ⟨p, l, e, R, s, m, args, below, meth, c, nL, D, A, Q⟩ := G
  obtain ⟨hx, hb, hml, hown, hts, hK, hN, hlk, hA, hR, hnL⟩ := F
  intro H locs ls hP hD hS hl
  subst hnL
  exact lv_lstore_n hx hb hd hi hl hn hq (fun ls hl => K H locs ls hP hD hS hl)
theorem g_lstore (F : Fx G cc Ts own cy nM rm) {i : Nat} {x : Int64} (hd : decode cc pc = .ok (.lstore i, 2)) (hn : i + 1 < nM) (hq : (i, Value.long x) :: lv.filter (fun q => !(q.1 == i) && (!(q.1 == i + 1) && !(q.1 + 1 == i && q.2.category == 2))) = lv') (K : Go G a b (pc + 2) lv' st sg) : Go G a b pc lv (.long x :: st) sg := by
  obtain ⟨p, l, e, R, s, m, args, below, meth, c, nL, D, A, Q⟩ := G
  obtain ⟨hx, hb, hml, hown, hts, hK, hN, hlk, hA, hR, hnL⟩ := F
  intro H locs ls hP hD hS hl
  subst hnL
  exact lv_lstore hx hb hd hl hn hq (fun ls hl => K H locs ls hP hD hS hl)
theorem g_aload_n (F : Fx G cc Ts own cy nM rm) {k : Fin 4} {i : Nat} {x : Nat} (hd : decode cc pc = .ok (.aload_n k, 1)) (hi : (k : Nat) = i) (q : Nat) (hq : lv[q]? = some (i, .ref x)) (K : Go G a b (pc + 1) lv (.ref x :: st) sg) : Go G a b pc lv (st) sg := by
  obtain ⟨p, l, e, R, s, m, args, below, meth, c, nL, D, A, Q⟩ := G
  obtain ⟨hx, hb, hml, hown, hts, hK, hN, hlk, hA, hR, hnL⟩ := F
  intro H locs ls hP hD hS hl
  exact lv_aload_n hx hb hd hi (lv_at hl q hq) (K H locs ls hP hD hS hl)
theorem g_aload (F : Fx G cc Ts own cy nM rm) {i : Nat} {x : Nat} (hd : decode cc pc = .ok (.aload i, 2)) (q : Nat) (hq : lv[q]? = some (i, .ref x)) (K : Go G a b (pc + 2) lv (.ref x :: st) sg) : Go G a b pc lv (st) sg := by
  obtain ⟨p, l, e, R, s, m, args, below, meth, c, nL, D, A, Q⟩ := G
  obtain ⟨hx, hb, hml, hown, hts, hK, hN, hlk, hA, hR, hnL⟩ := F
  intro H locs ls hP hD hS hl
  exact lv_aload hx hb hd (lv_at hl q hq) (K H locs ls hP hD hS hl)
theorem g_astore_n (F : Fx G cc Ts own cy nM rm) {k : Fin 4} {i : Nat} {x : Nat} (hd : decode cc pc = .ok (.astore_n k, 1)) (hi : (k : Nat) = i) (hn : i < nM) (hq : (i, Value.ref x) :: lv.filter (fun q => !(q.1 == i) && !(q.1 + 1 == i && q.2.category == 2)) = lv') (K : Go G a b (pc + 1) lv' st sg) : Go G a b pc lv (.ref x :: st) sg := by
  obtain ⟨p, l, e, R, s, m, args, below, meth, c, nL, D, A, Q⟩ := G
  obtain ⟨hx, hb, hml, hown, hts, hK, hN, hlk, hA, hR, hnL⟩ := F
  intro H locs ls hP hD hS hl
  subst hnL
  exact lv_astore_n hx hb hd hi hl hn hq (fun ls hl => K H locs ls hP hD hS hl)
theorem g_astore (F : Fx G cc Ts own cy nM rm) {i : Nat} {x : Nat} (hd : decode cc pc = .ok (.astore i, 2)) (hn : i < nM) (hq : (i, Value.ref x) :: lv.filter (fun q => !(q.1 == i) && !(q.1 + 1 == i && q.2.category == 2)) = lv') (K : Go G a b (pc + 2) lv' st sg) : Go G a b pc lv (.ref x :: st) sg := by
  obtain ⟨p, l, e, R, s, m, args, below, meth, c, nL, D, A, Q⟩ := G
  obtain ⟨hx, hb, hml, hown, hts, hK, hN, hlk, hA, hR, hnL⟩ := F
  intro H locs ls hP hD hS hl
  subst hnL
  exact lv_astore hx hb hd hl hn hq (fun ls hl => K H locs ls hP hD hS hl)
theorem g_iinc (F : Fx G cc Ts own cy nM rm) {i : Nat} {n : Int} {x v : Int32} (hd : decode cc pc = .ok (.iinc i n, 3)) (k : Nat) (hk : lv[k]? = some (i, .int x)) (hv : x + Int32.ofInt n = v) (hn : i < nM) (hq : (i, Value.int v) :: lv.filter (fun q => !(q.1 == i) && !(q.1 + 1 == i && q.2.category == 2)) = lv') (K : Go G a b (pc + 3) lv' st sg) : Go G a b pc lv st sg := by
  obtain ⟨p, l, e, R, s, m, args, below, meth, c, nL, D, A, Q⟩ := G
  obtain ⟨hx, hb, hml, hown, hts, hK, hN, hlk, hA, hR, hnL⟩ := F
  intro H locs ls hP hD hS hl
  subst hnL
  exact lv_iinc hx hb hd hl hk hv hn hq (fun ls hl => K H locs ls hP hD hS hl)
theorem g_iadd (F : Fx G cc Ts own cy nM rm) {x y : Int32} (hd : decode cc pc = .ok (.iadd, 1)) (K : Go G a b (pc + 1) lv (.int (x + y) :: st) sg) : Go G a b pc lv (.int y :: .int x :: st) sg := by
  obtain ⟨p, l, e, R, s, m, args, below, meth, c, nL, D, A, Q⟩ := G
  obtain ⟨hx, hb, hml, hown, hts, hK, hN, hlk, hA, hR, hnL⟩ := F
  intro H locs ls hP hD hS hl
  exact lv_iadd hx hb hd (K H locs ls hP hD hS hl)
theorem g_isub (F : Fx G cc Ts own cy nM rm) {x y : Int32} (hd : decode cc pc = .ok (.isub, 1)) (K : Go G a b (pc + 1) lv (.int (x - y) :: st) sg) : Go G a b pc lv (.int y :: .int x :: st) sg := by
  obtain ⟨p, l, e, R, s, m, args, below, meth, c, nL, D, A, Q⟩ := G
  obtain ⟨hx, hb, hml, hown, hts, hK, hN, hlk, hA, hR, hnL⟩ := F
  intro H locs ls hP hD hS hl
  exact lv_isub hx hb hd (K H locs ls hP hD hS hl)
theorem g_imul (F : Fx G cc Ts own cy nM rm) {x y : Int32} (hd : decode cc pc = .ok (.imul, 1)) (K : Go G a b (pc + 1) lv (.int (x * y) :: st) sg) : Go G a b pc lv (.int y :: .int x :: st) sg := by
  obtain ⟨p, l, e, R, s, m, args, below, meth, c, nL, D, A, Q⟩ := G
  obtain ⟨hx, hb, hml, hown, hts, hK, hN, hlk, hA, hR, hnL⟩ := F
  intro H locs ls hP hD hS hl
  exact lv_imul hx hb hd (K H locs ls hP hD hS hl)
theorem g_iand (F : Fx G cc Ts own cy nM rm) {x y : Int32} (hd : decode cc pc = .ok (.iand, 1)) (K : Go G a b (pc + 1) lv (.int (x &&& y) :: st) sg) : Go G a b pc lv (.int y :: .int x :: st) sg := by
  obtain ⟨p, l, e, R, s, m, args, below, meth, c, nL, D, A, Q⟩ := G
  obtain ⟨hx, hb, hml, hown, hts, hK, hN, hlk, hA, hR, hnL⟩ := F
  intro H locs ls hP hD hS hl
  exact lv_iand hx hb hd (K H locs ls hP hD hS hl)
theorem g_ior (F : Fx G cc Ts own cy nM rm) {x y : Int32} (hd : decode cc pc = .ok (.ior, 1)) (K : Go G a b (pc + 1) lv (.int (x ||| y) :: st) sg) : Go G a b pc lv (.int y :: .int x :: st) sg := by
  obtain ⟨p, l, e, R, s, m, args, below, meth, c, nL, D, A, Q⟩ := G
  obtain ⟨hx, hb, hml, hown, hts, hK, hN, hlk, hA, hR, hnL⟩ := F
  intro H locs ls hP hD hS hl
  exact lv_ior hx hb hd (K H locs ls hP hD hS hl)
theorem g_ixor (F : Fx G cc Ts own cy nM rm) {x y : Int32} (hd : decode cc pc = .ok (.ixor, 1)) (K : Go G a b (pc + 1) lv (.int (x ^^^ y) :: st) sg) : Go G a b pc lv (.int y :: .int x :: st) sg := by
  obtain ⟨p, l, e, R, s, m, args, below, meth, c, nL, D, A, Q⟩ := G
  obtain ⟨hx, hb, hml, hown, hts, hK, hN, hlk, hA, hR, hnL⟩ := F
  intro H locs ls hP hD hS hl
  exact lv_ixor hx hb hd (K H locs ls hP hD hS hl)
theorem g_ishl (F : Fx G cc Ts own cy nM rm) {x y : Int32} (hd : decode cc pc = .ok (.ishl, 1)) (K : Go G a b (pc + 1) lv (.int (x <<< (y &&& 31)) :: st) sg) : Go G a b pc lv (.int y :: .int x :: st) sg := by
  obtain ⟨p, l, e, R, s, m, args, below, meth, c, nL, D, A, Q⟩ := G
  obtain ⟨hx, hb, hml, hown, hts, hK, hN, hlk, hA, hR, hnL⟩ := F
  intro H locs ls hP hD hS hl
  exact lv_ishl hx hb hd (K H locs ls hP hD hS hl)
theorem g_ishr (F : Fx G cc Ts own cy nM rm) {x y : Int32} (hd : decode cc pc = .ok (.ishr, 1)) (K : Go G a b (pc + 1) lv (.int (x >>> (y &&& 31)) :: st) sg) : Go G a b pc lv (.int y :: .int x :: st) sg := by
  obtain ⟨p, l, e, R, s, m, args, below, meth, c, nL, D, A, Q⟩ := G
  obtain ⟨hx, hb, hml, hown, hts, hK, hN, hlk, hA, hR, hnL⟩ := F
  intro H locs ls hP hD hS hl
  exact lv_ishr hx hb hd (K H locs ls hP hD hS hl)
theorem g_iushr (F : Fx G cc Ts own cy nM rm) {x y : Int32} (hd : decode cc pc = .ok (.iushr, 1)) (K : Go G a b (pc + 1) lv (.int ((x.toUInt32 >>> (y.toUInt32 &&& Int32.toUInt32 31)).toInt32) :: st) sg) : Go G a b pc lv (.int y :: .int x :: st) sg := by
  obtain ⟨p, l, e, R, s, m, args, below, meth, c, nL, D, A, Q⟩ := G
  obtain ⟨hx, hb, hml, hown, hts, hK, hN, hlk, hA, hR, hnL⟩ := F
  intro H locs ls hP hD hS hl
  exact lv_iushr hx hb hd rfl (K H locs ls hP hD hS hl)
theorem g_ladd (F : Fx G cc Ts own cy nM rm) {x y : Int64} (hd : decode cc pc = .ok (.ladd, 1)) (K : Go G a b (pc + 1) lv (.long (x + y) :: st) sg) : Go G a b pc lv (.long y :: .long x :: st) sg := by
  obtain ⟨p, l, e, R, s, m, args, below, meth, c, nL, D, A, Q⟩ := G
  obtain ⟨hx, hb, hml, hown, hts, hK, hN, hlk, hA, hR, hnL⟩ := F
  intro H locs ls hP hD hS hl
  exact lv_ladd hx hb hd (K H locs ls hP hD hS hl)
theorem g_lsub (F : Fx G cc Ts own cy nM rm) {x y : Int64} (hd : decode cc pc = .ok (.lsub, 1)) (K : Go G a b (pc + 1) lv (.long (x - y) :: st) sg) : Go G a b pc lv (.long y :: .long x :: st) sg := by
  obtain ⟨p, l, e, R, s, m, args, below, meth, c, nL, D, A, Q⟩ := G
  obtain ⟨hx, hb, hml, hown, hts, hK, hN, hlk, hA, hR, hnL⟩ := F
  intro H locs ls hP hD hS hl
  exact lv_lsub hx hb hd (K H locs ls hP hD hS hl)
theorem g_land (F : Fx G cc Ts own cy nM rm) {x y : Int64} (hd : decode cc pc = .ok (.land, 1)) (K : Go G a b (pc + 1) lv (.long (x &&& y) :: st) sg) : Go G a b pc lv (.long y :: .long x :: st) sg := by
  obtain ⟨p, l, e, R, s, m, args, below, meth, c, nL, D, A, Q⟩ := G
  obtain ⟨hx, hb, hml, hown, hts, hK, hN, hlk, hA, hR, hnL⟩ := F
  intro H locs ls hP hD hS hl
  exact lv_land hx hb hd (K H locs ls hP hD hS hl)
theorem g_lor (F : Fx G cc Ts own cy nM rm) {x y : Int64} (hd : decode cc pc = .ok (.lor, 1)) (K : Go G a b (pc + 1) lv (.long (x ||| y) :: st) sg) : Go G a b pc lv (.long y :: .long x :: st) sg := by
  obtain ⟨p, l, e, R, s, m, args, below, meth, c, nL, D, A, Q⟩ := G
  obtain ⟨hx, hb, hml, hown, hts, hK, hN, hlk, hA, hR, hnL⟩ := F
  intro H locs ls hP hD hS hl
  exact lv_lor hx hb hd (K H locs ls hP hD hS hl)
theorem g_lshl (F : Fx G cc Ts own cy nM rm) {x : Int64} {y : Int32} (hd : decode cc pc = .ok (.lshl, 1)) (K : Go G a b (pc + 1) lv (.long (x <<< (y.toInt64 &&& 63)) :: st) sg) : Go G a b pc lv (.int y :: .long x :: st) sg := by
  obtain ⟨p, l, e, R, s, m, args, below, meth, c, nL, D, A, Q⟩ := G
  obtain ⟨hx, hb, hml, hown, hts, hK, hN, hlk, hA, hR, hnL⟩ := F
  intro H locs ls hP hD hS hl
  exact lv_lshl hx hb hd rfl (K H locs ls hP hD hS hl)
theorem g_lcmp (F : Fx G cc Ts own cy nM rm) {x y : Int64} (hd : decode cc pc = .ok (.lcmp, 1)) (K : Go G a b (pc + 1) lv (.int (lg_cmp x y) :: st) sg) : Go G a b pc lv (.long y :: .long x :: st) sg := by
  obtain ⟨p, l, e, R, s, m, args, below, meth, c, nL, D, A, Q⟩ := G
  obtain ⟨hx, hb, hml, hown, hts, hK, hN, hlk, hA, hR, hnL⟩ := F
  intro H locs ls hP hD hS hl
  exact W.lcmp hx hb hd (K H locs ls hP hD hS hl)
theorem g_i2l (F : Fx G cc Ts own cy nM rm) {x : Int32} (hd : decode cc pc = .ok (.i2l, 1)) (K : Go G a b (pc + 1) lv (.long x.toInt64 :: st) sg) : Go G a b pc lv (.int x :: st) sg := by
  obtain ⟨p, l, e, R, s, m, args, below, meth, c, nL, D, A, Q⟩ := G
  obtain ⟨hx, hb, hml, hown, hts, hK, hN, hlk, hA, hR, hnL⟩ := F
  intro H locs ls hP hD hS hl
  exact lv_i2l hx hb hd rfl (K H locs ls hP hD hS hl)
theorem g_i2c (F : Fx G cc Ts own cy nM rm) {x : Int32} (hd : decode cc pc = .ok (.i2c, 1)) (K : Go G a b (pc + 1) lv (.int (x.toUInt32 % 65536).toInt32 :: st) sg) : Go G a b pc lv (.int x :: st) sg := by
  obtain ⟨p, l, e, R, s, m, args, below, meth, c, nL, D, A, Q⟩ := G
  obtain ⟨hx, hb, hml, hown, hts, hK, hN, hlk, hA, hR, hnL⟩ := F
  intro H locs ls hP hD hS hl
  exact lv_i2c hx hb hd rfl (K H locs ls hP hD hS hl)
theorem g_dup (F : Fx G cc Ts own cy nM rm) {v : Value} (hd : decode cc pc = .ok (.dup, 1)) (h1 : v.category = 1) (K : Go G a b (pc + 1) lv (v :: v :: st) sg) : Go G a b pc lv (v :: st) sg := by
  obtain ⟨p, l, e, R, s, m, args, below, meth, c, nL, D, A, Q⟩ := G
  obtain ⟨hx, hb, hml, hown, hts, hK, hN, hlk, hA, hR, hnL⟩ := F
  intro H locs ls hP hD hS hl
  exact lv_dup hx hb hd h1 (K H locs ls hP hD hS hl)
theorem g_pop (F : Fx G cc Ts own cy nM rm) {v : Value} (hd : decode cc pc = .ok (.pop, 1)) (h1 : v.category = 1) (K : Go G a b (pc + 1) lv (st) sg) : Go G a b pc lv (v :: st) sg := by
  obtain ⟨p, l, e, R, s, m, args, below, meth, c, nL, D, A, Q⟩ := G
  obtain ⟨hx, hb, hml, hown, hts, hK, hN, hlk, hA, hR, hnL⟩ := F
  intro H locs ls hP hD hS hl
  exact lv_pop hx hb hd h1 (K H locs ls hP hD hS hl)
theorem g_dup2 (F : Fx G cc Ts own cy nM rm) {v w : Value} (hd : decode cc pc = .ok (.dup2, 1)) (h1 : v.category = 1) (h2 : w.category = 1) (K : Go G a b (pc + 1) lv (v :: w :: v :: w :: st) sg) : Go G a b pc lv (v :: w :: st) sg := by
  obtain ⟨p, l, e, R, s, m, args, below, meth, c, nL, D, A, Q⟩ := G
  obtain ⟨hx, hb, hml, hown, hts, hK, hN, hlk, hA, hR, hnL⟩ := F
  intro H locs ls hP hD hS hl
  exact lv_dup2_11 hx hb hd h1 h2 (K H locs ls hP hD hS hl)
theorem g_ldcw (F : Fx G cc Ts own cy nM rm) {index : Nat} {v : Int32} (hd : decode cc pc = .ok (.ldc_w index, 3)) (hc : Cond.constant own index v ∈ Ts) (K : Go G a b (pc + 3) lv (.int v :: st) sg) : Go G a b pc lv st sg := by
  obtain ⟨p, l, e, R, s, m, args, below, meth, c, nL, D, A, Q⟩ := G
  obtain ⟨hx, hb, hml, hown, hts, hK, hN, hlk, hA, hR, hnL⟩ := F
  intro H locs ls hP hD hS hl
  exact lv_ldcw hx hb hown (hts _ hc) hd (K H locs ls hP hD hS hl)
theorem g_ldc2 (F : Fx G cc Ts own cy nM rm) {index : Nat} {v : Int64} (hd : decode cc pc = .ok (.ldc2_w index, 3)) (hc : Cond.constantLong own index v ∈ Ts) (K : Go G a b (pc + 3) lv (.long v :: st) sg) : Go G a b pc lv st sg := by
  obtain ⟨p, l, e, R, s, m, args, below, meth, c, nL, D, A, Q⟩ := G
  obtain ⟨hx, hb, hml, hown, hts, hK, hN, hlk, hA, hR, hnL⟩ := F
  intro H locs ls hP hD hS hl
  exact lv_ldc2 hx hb hown (hts _ hc) hd (K H locs ls hP hD hS hl)
theorem g_goto (F : Fx G cc Ts own cy nM rm) {off : Int} (tgt : Nat) (hd : decode cc pc = .ok (.goto off, 3)) (ht : (pc : Int) + off = (tgt : Int)) (K : Go G a b tgt lv st sg) : Go G a b pc lv st sg := by
  obtain ⟨p, l, e, R, s, m, args, below, meth, c, nL, D, A, Q⟩ := G
  obtain ⟨hx, hb, hml, hown, hts, hK, hN, hlk, hA, hR, hnL⟩ := F
  intro H locs ls hP hD hS hl
  exact lv_goto hx hb hd ht (K H locs ls hP hD hS hl)
theorem g_if_eq (F : Fx G cc Ts own cy nM rm) {x : Int32} {off : Int} (tgt : Nat) {α : Type} {X Y o : α} [Decidable (x = 0)] (h : (if x = 0 then X else Y) = o) (hd : decode cc pc = .ok (.ifCond .eq off, 3)) (ht : (pc : Int) + off = (tgt : Int)) (KT : X = o → Go G a b tgt lv st sg) (KF : Y = o → Go G a b (pc + 3) lv st sg) : Go G a b pc lv (.int x :: st) sg := by
  obtain ⟨p, l, e, R, s, m, args, below, meth, c, nL, D, A, Q⟩ := G
  obtain ⟨hx, hb, hml, hown, hts, hK, hN, hlk, hA, hR, hnL⟩ := F
  intro H locs ls hP hD hS hl
  exact lv_if_eq hx hb hd ht (fun hc => KT (by rw [if_pos hc] at h; exact h) H locs ls hP hD hS hl) (fun hc => KF (by rw [if_neg hc] at h; exact h) H locs ls hP hD hS hl)
theorem g_icmp_eq (F : Fx G cc Ts own cy nM rm) {x y : Int32} {off : Int} (tgt : Nat) {α : Type} {X Y o : α} [Decidable (x = y)] (h : (if x = y then X else Y) = o) (hd : decode cc pc = .ok (.if_icmp .eq off, 3)) (ht : (pc : Int) + off = (tgt : Int)) (KT : X = o → Go G a b tgt lv st sg) (KF : Y = o → Go G a b (pc + 3) lv st sg) : Go G a b pc lv (.int y :: .int x :: st) sg := by
  obtain ⟨p, l, e, R, s, m, args, below, meth, c, nL, D, A, Q⟩ := G
  obtain ⟨hx, hb, hml, hown, hts, hK, hN, hlk, hA, hR, hnL⟩ := F
  intro H locs ls hP hD hS hl
  exact lv_icmp_eq hx hb hd ht (fun hc => KT (by rw [if_pos hc] at h; exact h) H locs ls hP hD hS hl) (fun hc => KF (by rw [if_neg hc] at h; exact h) H locs ls hP hD hS hl)
theorem g_if_ne (F : Fx G cc Ts own cy nM rm) {x : Int32} {off : Int} (tgt : Nat) {α : Type} {X Y o : α} [Decidable (x = 0)] (h : (if x = 0 then Y else X) = o) (hd : decode cc pc = .ok (.ifCond .ne off, 3)) (ht : (pc : Int) + off = (tgt : Int)) (KT : X = o → Go G a b tgt lv st sg) (KF : Y = o → Go G a b (pc + 3) lv st sg) : Go G a b pc lv (.int x :: st) sg := by
  obtain ⟨p, l, e, R, s, m, args, below, meth, c, nL, D, A, Q⟩ := G
  obtain ⟨hx, hb, hml, hown, hts, hK, hN, hlk, hA, hR, hnL⟩ := F
  intro H locs ls hP hD hS hl
  exact lv_if_ne hx hb hd ht (fun hc => KT (by rw [if_neg hc] at h; exact h) H locs ls hP hD hS hl) (fun hc => KF (by rw [if_pos hc] at h; exact h) H locs ls hP hD hS hl)
theorem g_icmp_ne (F : Fx G cc Ts own cy nM rm) {x y : Int32} {off : Int} (tgt : Nat) {α : Type} {X Y o : α} [Decidable (x = y)] (h : (if x = y then Y else X) = o) (hd : decode cc pc = .ok (.if_icmp .ne off, 3)) (ht : (pc : Int) + off = (tgt : Int)) (KT : X = o → Go G a b tgt lv st sg) (KF : Y = o → Go G a b (pc + 3) lv st sg) : Go G a b pc lv (.int y :: .int x :: st) sg := by
  obtain ⟨p, l, e, R, s, m, args, below, meth, c, nL, D, A, Q⟩ := G
  obtain ⟨hx, hb, hml, hown, hts, hK, hN, hlk, hA, hR, hnL⟩ := F
  intro H locs ls hP hD hS hl
  exact lv_icmp_ne hx hb hd ht (fun hc => KT (by rw [if_neg hc] at h; exact h) H locs ls hP hD hS hl) (fun hc => KF (by rw [if_pos hc] at h; exact h) H locs ls hP hD hS hl)
theorem g_if_lt (F : Fx G cc Ts own cy nM rm) {x : Int32} {off : Int} (tgt : Nat) {α : Type} {X Y o : α} [Decidable (x < 0)] (h : (if x < 0 then X else Y) = o) (hd : decode cc pc = .ok (.ifCond .lt off, 3)) (ht : (pc : Int) + off = (tgt : Int)) (KT : X = o → Go G a b tgt lv st sg) (KF : Y = o → Go G a b (pc + 3) lv st sg) : Go G a b pc lv (.int x :: st) sg := by
  obtain ⟨p, l, e, R, s, m, args, below, meth, c, nL, D, A, Q⟩ := G
  obtain ⟨hx, hb, hml, hown, hts, hK, hN, hlk, hA, hR, hnL⟩ := F
  intro H locs ls hP hD hS hl
  exact lv_if_lt hx hb hd ht (fun hc => KT (by rw [if_pos hc] at h; exact h) H locs ls hP hD hS hl) (fun hc => KF (by rw [if_neg hc] at h; exact h) H locs ls hP hD hS hl)
theorem g_icmp_lt (F : Fx G cc Ts own cy nM rm) {x y : Int32} {off : Int} (tgt : Nat) {α : Type} {X Y o : α} [Decidable (x < y)] (h : (if x < y then X else Y) = o) (hd : decode cc pc = .ok (.if_icmp .lt off, 3)) (ht : (pc : Int) + off = (tgt : Int)) (KT : X = o → Go G a b tgt lv st sg) (KF : Y = o → Go G a b (pc + 3) lv st sg) : Go G a b pc lv (.int y :: .int x :: st) sg := by
  obtain ⟨p, l, e, R, s, m, args, below, meth, c, nL, D, A, Q⟩ := G
  obtain ⟨hx, hb, hml, hown, hts, hK, hN, hlk, hA, hR, hnL⟩ := F
  intro H locs ls hP hD hS hl
  exact lv_icmp_lt hx hb hd ht (fun hc => KT (by rw [if_pos hc] at h; exact h) H locs ls hP hD hS hl) (fun hc => KF (by rw [if_neg hc] at h; exact h) H locs ls hP hD hS hl)
theorem g_if_ge (F : Fx G cc Ts own cy nM rm) {x : Int32} {off : Int} (tgt : Nat) {α : Type} {X Y o : α} [Decidable (0 ≤ x)] (h : (if 0 ≤ x then X else Y) = o) (hd : decode cc pc = .ok (.ifCond .ge off, 3)) (ht : (pc : Int) + off = (tgt : Int)) (KT : X = o → Go G a b tgt lv st sg) (KF : Y = o → Go G a b (pc + 3) lv st sg) : Go G a b pc lv (.int x :: st) sg := by
  obtain ⟨p, l, e, R, s, m, args, below, meth, c, nL, D, A, Q⟩ := G
  obtain ⟨hx, hb, hml, hown, hts, hK, hN, hlk, hA, hR, hnL⟩ := F
  intro H locs ls hP hD hS hl
  exact lv_if_ge hx hb hd ht (fun hc => KT (by rw [if_pos hc] at h; exact h) H locs ls hP hD hS hl) (fun hc => KF (by rw [if_neg hc] at h; exact h) H locs ls hP hD hS hl)
theorem g_icmp_ge (F : Fx G cc Ts own cy nM rm) {x y : Int32} {off : Int} (tgt : Nat) {α : Type} {X Y o : α} [Decidable (y ≤ x)] (h : (if y ≤ x then X else Y) = o) (hd : decode cc pc = .ok (.if_icmp .ge off, 3)) (ht : (pc : Int) + off = (tgt : Int)) (KT : X = o → Go G a b tgt lv st sg) (KF : Y = o → Go G a b (pc + 3) lv st sg) : Go G a b pc lv (.int y :: .int x :: st) sg := by
  obtain ⟨p, l, e, R, s, m, args, below, meth, c, nL, D, A, Q⟩ := G
  obtain ⟨hx, hb, hml, hown, hts, hK, hN, hlk, hA, hR, hnL⟩ := F
  intro H locs ls hP hD hS hl
  exact lv_icmp_ge hx hb hd ht (fun hc => KT (by rw [if_pos hc] at h; exact h) H locs ls hP hD hS hl) (fun hc => KF (by rw [if_neg hc] at h; exact h) H locs ls hP hD hS hl)
theorem g_if_gt (F : Fx G cc Ts own cy nM rm) {x : Int32} {off : Int} (tgt : Nat) {α : Type} {X Y o : α} [Decidable (0 < x)] (h : (if 0 < x then X else Y) = o) (hd : decode cc pc = .ok (.ifCond .gt off, 3)) (ht : (pc : Int) + off = (tgt : Int)) (KT : X = o → Go G a b tgt lv st sg) (KF : Y = o → Go G a b (pc + 3) lv st sg) : Go G a b pc lv (.int x :: st) sg := by
  obtain ⟨p, l, e, R, s, m, args, below, meth, c, nL, D, A, Q⟩ := G
  obtain ⟨hx, hb, hml, hown, hts, hK, hN, hlk, hA, hR, hnL⟩ := F
  intro H locs ls hP hD hS hl
  exact lv_if_gt hx hb hd ht (fun hc => KT (by rw [if_pos hc] at h; exact h) H locs ls hP hD hS hl) (fun hc => KF (by rw [if_neg hc] at h; exact h) H locs ls hP hD hS hl)
theorem g_icmp_gt (F : Fx G cc Ts own cy nM rm) {x y : Int32} {off : Int} (tgt : Nat) {α : Type} {X Y o : α} [Decidable (y < x)] (h : (if y < x then X else Y) = o) (hd : decode cc pc = .ok (.if_icmp .gt off, 3)) (ht : (pc : Int) + off = (tgt : Int)) (KT : X = o → Go G a b tgt lv st sg) (KF : Y = o → Go G a b (pc + 3) lv st sg) : Go G a b pc lv (.int y :: .int x :: st) sg := by
  obtain ⟨p, l, e, R, s, m, args, below, meth, c, nL, D, A, Q⟩ := G
  obtain ⟨hx, hb, hml, hown, hts, hK, hN, hlk, hA, hR, hnL⟩ := F
  intro H locs ls hP hD hS hl
  exact lv_icmp_gt hx hb hd ht (fun hc => KT (by rw [if_pos hc] at h; exact h) H locs ls hP hD hS hl) (fun hc => KF (by rw [if_neg hc] at h; exact h) H locs ls hP hD hS hl)
theorem g_if_le (F : Fx G cc Ts own cy nM rm) {x : Int32} {off : Int} (tgt : Nat) {α : Type} {X Y o : α} [Decidable (x ≤ 0)] (h : (if x ≤ 0 then X else Y) = o) (hd : decode cc pc = .ok (.ifCond .le off, 3)) (ht : (pc : Int) + off = (tgt : Int)) (KT : X = o → Go G a b tgt lv st sg) (KF : Y = o → Go G a b (pc + 3) lv st sg) : Go G a b pc lv (.int x :: st) sg := by
  obtain ⟨p, l, e, R, s, m, args, below, meth, c, nL, D, A, Q⟩ := G
  obtain ⟨hx, hb, hml, hown, hts, hK, hN, hlk, hA, hR, hnL⟩ := F
  intro H locs ls hP hD hS hl
  exact lv_if_le hx hb hd ht (fun hc => KT (by rw [if_pos hc] at h; exact h) H locs ls hP hD hS hl) (fun hc => KF (by rw [if_neg hc] at h; exact h) H locs ls hP hD hS hl)
theorem g_icmp_le (F : Fx G cc Ts own cy nM rm) {x y : Int32} {off : Int} (tgt : Nat) {α : Type} {X Y o : α} [Decidable (x ≤ y)] (h : (if x ≤ y then X else Y) = o) (hd : decode cc pc = .ok (.if_icmp .le off, 3)) (ht : (pc : Int) + off = (tgt : Int)) (KT : X = o → Go G a b tgt lv st sg) (KF : Y = o → Go G a b (pc + 3) lv st sg) : Go G a b pc lv (.int y :: .int x :: st) sg := by
  obtain ⟨p, l, e, R, s, m, args, below, meth, c, nL, D, A, Q⟩ := G
  obtain ⟨hx, hb, hml, hown, hts, hK, hN, hlk, hA, hR, hnL⟩ := F
  intro H locs ls hP hD hS hl
  exact lv_icmp_le hx hb hd ht (fun hc => KT (by rw [if_pos hc] at h; exact h) H locs ls hP hD hS hl) (fun hc => KF (by rw [if_neg hc] at h; exact h) H locs ls hP hD hS hl)
theorem g_get (F : Fx G cc Ts own cy nM rm) {C : String} {T : u_T} {N ci index hh : Nat} {fs : List Value} {v : Value} (hin : ∀ w ∈ u_ws C T N, w ∈ Ts) (i j k : Nat) (hd : decode cc pc = .ok (.getfield index, 3)) (he : cellAt sg i j = some (hh, .inr (ci, fs))) (hc : vwCl[ci]? = some (C, T, N)) (hk : k < N) (hlink : Cond.fieldLink own index (T k).1 (T k).2.1 (T k).2.2.1 ∈ Ts) (hv : fs[k]? = some v) (K : Go G a b (pc + 3) lv (v :: st) sg) : Go G a b pc lv (.ref hh :: st) sg := by
  obtain ⟨p, l, e, R, s, m, args, below, meth, c, nL, D, A, Q⟩ := G
  obtain ⟨hx, hb, hml, hown, hts, hK, hN, hlk, hA, hR, hnL⟩ := F
  intro H locs ls hP hD hS hl
  obtain ⟨q, hq, -⟩ := cellAt_flat sg i j _ he
  exact va_get hx hb hts hin hown hK hP q hq hc k hk (hts _ hlink) (fun _ h9 => h9) hv hd (K H locs ls hP hD hS hl)
theorem g_put (F : Fx G cc Ts own cy nM rm) {C : String} {T : u_T} {N ci index hh : Nat} {fs : List Value} {v : Value} {ty : FieldType} (hin : ∀ w ∈ u_ws C T N, w ∈ Ts) (ty0 : Nat → FieldType) (hty : ∀ k, k < N → parseFieldDescriptor (T k).2.2.1 = some (ty0 k)) (hnm : ∀ a, a < N → ∀ b, b < N → a ≠ b → (T a).2.1 ≠ (T b).2.1) (i j k : Nat) (hd : decode cc pc = .ok (.putfield index, 3)) (he : cellAt sg i j = some (hh, .inr (ci, fs))) (hc : vwCl[ci]? = some (C, T, N)) (hk : k < N) (hlink : Cond.fieldLink own index (T k).1 (T k).2.1 (T k).2.2.1 ∈ Ts) (hfin : (T k).2.2.2 = false) (hdt : ty0 k = ty) (hn : narrow ty v = v) (hf : fits ty v = true) (hl2 : k < fs.length) (hset : setCell sg i j (hh, .inr (ci, fs.set k v)) = sg') (K : Go G a b (pc + 3) lv st sg') : Go G a b pc lv (v :: .ref hh :: st) sg := by
  obtain ⟨p, l, e, R, s, m, args, below, meth, c, nL, D, A, Q⟩ := G
  obtain ⟨hx, hb, hml, hown, hts, hK, hN, hlk, hA, hR, hnL⟩ := F
  intro H locs ls hP hD hS hl
  obtain ⟨q, hq, hs⟩ := cellAt_flat sg i j _ he
  refine va_put hx hb hts hin ty0 hty hnm hown hK hP hD hS q hq hc k hk (hts _ hlink) (fun _ h9 => h9) hfin (by rw [hty k hk, hdt]) hn hf hl2 hd (fun H locs hP hD hS => ?_)
  rw [hs, hset] at hP hD
  exact K H locs ls hP hD hS hl
theorem g_putF (F : Fx G cc Ts own cy nM rm) {ret : Option FieldType} {rv : Option Value} {X : List va_W → Prop} {mc ms : Nat} (Rq : Rx G "<init>" ret rv X mc ms) {C : String} {T : u_T} {N ci index hh : Nat} {fs : List Value} {v : Value} {ty : FieldType} (hin : ∀ w ∈ u_ws C T N, w ∈ Ts) (ty0 : Nat → FieldType) (hty : ∀ k, k < N → parseFieldDescriptor (T k).2.2.1 = some (ty0 k)) (hnm : ∀ a, a < N → ∀ b, b < N → a ≠ b → (T a).2.1 ≠ (T b).2.1) (i j k : Nat) (hd : decode cc pc = .ok (.putfield index, 3)) (he : cellAt sg i j = some (hh, .inr (ci, fs))) (hc : vwCl[ci]? = some (C, T, N)) (hk : k < N) (hlink : Cond.fieldLink own index (T k).1 (T k).2.1 (T k).2.2.1 ∈ Ts) (hfin : (T k).2.2.2 = true) (hdecl : (T k).1 = own) (hdt : ty0 k = ty) (hn : narrow ty v = v) (hf : fits ty v = true) (hl2 : k < fs.length) (hset : setCell sg i j (hh, .inr (ci, fs.set k v)) = sg') (K : Go G a b (pc + 3) lv st sg') : Go G a b pc lv (v :: .ref hh :: st) sg := by
  obtain ⟨p, l, e, R, s, m, args, below, meth, c, nL, D, A, Q⟩ := G
  obtain ⟨hx, hb, hml, hown, hts, hK, hN, hlk, hA, hR, hnL⟩ := F
  intro H locs ls hP hD hS hl
  obtain ⟨-, hnme, -⟩ := Rq
  obtain ⟨q, hq, hs⟩ := cellAt_flat sg i j _ he
  refine va_putF hx hb hts hin ty0 hty hnm hown hK hP hD hS q hq hc k hk (hts _ hlink) (fun _ h9 => h9) hfin hnme hdecl (by rw [hty k hk, hdt]) hn hf hl2 hd (fun H locs hP hD hS => ?_)
  rw [hs, hset] at hP hD
  exact K H locs ls hP hD hS hl
theorem g_iaload (F : Fx G cc Ts own cy nM rm) {hh n : Nat} {f : Nat → Int32} {x : Int32} {α : Type} {Y : Option α} {o : α} (h : inR x n Y = some o) (i j : Nat) (hd : decode cc pc = .ok (.iaload, 1)) (he : cellAt sg i j = some (hh, .inl (cy 0, n, .inl f))) (K : Y = some o → Go G a b (pc + 1) lv (.int (f x.toNatClampNeg) :: st) sg) : Go G a b pc lv (.int x :: .ref hh :: st) sg := by
  obtain ⟨p, l, e, R, s, m, args, below, meth, c, nL, D, A, Q⟩ := G
  obtain ⟨hx, hb, hml, hown, hts, hK, hN, hlk, hA, hR, hnL⟩ := F
  intro H locs ls hP hD hS hl
  obtain ⟨q, hq, -⟩ := cellAt_flat sg i j _ he
  obtain ⟨hc, h⟩ := inR_some h
  exact va_iald hx hb hK hP q 0 hq rfl hc hd (K h H locs ls hP hD hS hl)
theorem g_laload (F : Fx G cc Ts own cy nM rm) {hh n : Nat} {f : Nat → Int64} {x : Int32} {α : Type} {Y : Option α} {o : α} (h : inR x n Y = some o) (i j : Nat) (hd : decode cc pc = .ok (.laload, 1)) (he : cellAt sg i j = some (hh, .inl (cy 1, n, .inr (.inl f)))) (K : Y = some o → Go G a b (pc + 1) lv (.long (f x.toNatClampNeg) :: st) sg) : Go G a b pc lv (.int x :: .ref hh :: st) sg := by
  obtain ⟨p, l, e, R, s, m, args, below, meth, c, nL, D, A, Q⟩ := G
  obtain ⟨hx, hb, hml, hown, hts, hK, hN, hlk, hA, hR, hnL⟩ := F
  intro H locs ls hP hD hS hl
  obtain ⟨q, hq, -⟩ := cellAt_flat sg i j _ he
  obtain ⟨hc, h⟩ := inR_some h
  exact va_lald hx hb hK hP q 1 hq rfl hc hd (K h H locs ls hP hD hS hl)
theorem g_zaload (F : Fx G cc Ts own cy nM rm) {hh n : Nat} {f : Nat → Int32} {x : Int32} {α : Type} {Y : Option α} {o : α} (h : inR x n Y = some o) (i j : Nat) (hd : decode cc pc = .ok (.baload, 1)) (he : cellAt sg i j = some (hh, .inl (cy 2, n, .inl f))) (K : Y = some o → Go G a b (pc + 1) lv (.int (f x.toNatClampNeg) :: st) sg) : Go G a b pc lv (.int x :: .ref hh :: st) sg := by
  obtain ⟨p, l, e, R, s, m, args, below, meth, c, nL, D, A, Q⟩ := G
  obtain ⟨hx, hb, hml, hown, hts, hK, hN, hlk, hA, hR, hnL⟩ := F
  intro H locs ls hP hD hS hl
  obtain ⟨q, hq, -⟩ := cellAt_flat sg i j _ he
  obtain ⟨hc, h⟩ := inR_some h
  exact va_zald hx hb hK hP q 2 hq rfl hc hd (K h H locs ls hP hD hS hl)
theorem g_iastore (F : Fx G cc Ts own cy nM rm) {hh n : Nat} {f : Nat → Int32} {x : Int32} {v : Int32} {α : Type} {Y : Option α} {o : α} (h : inR x n Y = some o) (i j : Nat) (hd : decode cc pc = .ok (.iastore, 1)) (he : cellAt sg i j = some (hh, .inl (cy 0, n, .inl f))) (hset : setCell sg i j (hh, .inl (cy 0, n, .inl (upd f x.toNatClampNeg v))) = sg') (K : Y = some o → Go G a b (pc + 1) lv st sg') : Go G a b pc lv (.int v :: .int x :: .ref hh :: st) sg := by
  obtain ⟨p, l, e, R, s, m, args, below, meth, c, nL, D, A, Q⟩ := G
  obtain ⟨hx, hb, hml, hown, hts, hK, hN, hlk, hA, hR, hnL⟩ := F
  intro H locs ls hP hD hS hl
  obtain ⟨q, hq, hs⟩ := cellAt_flat sg i j _ he
  obtain ⟨hc, h⟩ := inR_some h
  refine va_iast hx hb hK hP hD hS q 0 hq rfl hc hd (fun H locs hP hD hS => ?_)
  rw [hs, hset] at hP hD
  exact K h H locs ls hP hD hS hl
theorem g_lastore (F : Fx G cc Ts own cy nM rm) {hh n : Nat} {f : Nat → Int64} {x : Int32} {v : Int64} {α : Type} {Y : Option α} {o : α} (h : inR x n Y = some o) (i j : Nat) (hd : decode cc pc = .ok (.lastore, 1)) (he : cellAt sg i j = some (hh, .inl (cy 1, n, .inr (.inl f)))) (hset : setCell sg i j (hh, .inl (cy 1, n, .inr (.inl (vp_updL f x.toNatClampNeg v)))) = sg') (K : Y = some o → Go G a b (pc + 1) lv st sg') : Go G a b pc lv (.long v :: .int x :: .ref hh :: st) sg := by
  obtain ⟨p, l, e, R, s, m, args, below, meth, c, nL, D, A, Q⟩ := G
  obtain ⟨hx, hb, hml, hown, hts, hK, hN, hlk, hA, hR, hnL⟩ := F
  intro H locs ls hP hD hS hl
  obtain ⟨q, hq, hs⟩ := cellAt_flat sg i j _ he
  obtain ⟨hc, h⟩ := inR_some h
  refine va_last hx hb hK hP hD hS q 1 hq rfl hc hd (fun H locs hP hD hS => ?_)
  rw [hs, hset] at hP hD
  exact K h H locs ls hP hD hS hl
theorem g_zastore (F : Fx G cc Ts own cy nM rm) {hh n : Nat} {f : Nat → Int32} {x : Int32} {v : Int32} {α : Type} {Y : Option α} {o : α} (h : inR x n Y = some o) (i j : Nat) (hd : decode cc pc = .ok (.bastore, 1)) (he : cellAt sg i j = some (hh, .inl (cy 2, n, .inl f))) (hset : setCell sg i j (hh, .inl (cy 2, n, .inl (upd f x.toNatClampNeg (vp_nar .boolean v)))) = sg') (K : Y = some o → Go G a b (pc + 1) lv st sg') : Go G a b pc lv (.int v :: .int x :: .ref hh :: st) sg := by
  obtain ⟨p, l, e, R, s, m, args, below, meth, c, nL, D, A, Q⟩ := G
  obtain ⟨hx, hb, hml, hown, hts, hK, hN, hlk, hA, hR, hnL⟩ := F
  intro H locs ls hP hD hS hl
  obtain ⟨q, hq, hs⟩ := cellAt_flat sg i j _ he
  obtain ⟨hc, h⟩ := inR_some h
  refine va_zast hx hb hK hP hD hS q 2 hq rfl hc hd (fun H locs hP hD hS => ?_)
  rw [hs, hset] at hP hD
  exact K h H locs ls hP hD hS hl
theorem g_alen (F : Fx G cc Ts own cy nM rm) {hh t0 : Nat} {ty : FieldType} {x : vp_A} {v : Int32} (i j : Nat) (hd : decode cc pc = .ok (.arraylength, 1)) (he : cellAt sg i j = some (hh, .inl (cy t0, x))) (ht : (ty4 cy)[t0]? = some (cy t0, ty)) (hv : Int32.ofNat x.1 = v) (K : Go G a b (pc + 1) lv (.int v :: st) sg) : Go G a b pc lv (.ref hh :: st) sg := by
  obtain ⟨p, l, e, R, s, m, args, below, meth, c, nL, D, A, Q⟩ := G
  obtain ⟨hx, hb, hml, hown, hts, hK, hN, hlk, hA, hR, hnL⟩ := F
  intro H locs ls hP hD hS hl
  obtain ⟨q, hq, -⟩ := cellAt_flat sg i j _ he
  exact va_alen hx hb hK hP q t0 hq ht hv hd (K H locs ls hP hD hS hl)
theorem g_aaload (F : Fx G cc Ts own cy nM rm) {hh n : Nat} {f : Nat → Option Nat} {x : Int32} {α : Type} {Y : Option α} {o : α} (h : inR x n Y = some o) (i j : Nat) (hd : decode cc pc = .ok (.aaload, 1)) (he : cellAt sg i j = some (hh, .inl (cy 3, n, .inr (.inr (.inr (.inr f)))))) (K : vp_in x n → Y = some o → Go G a b (pc + 1) lv (va_rf (f x.toNatClampNeg) :: st) sg) : Go G a b pc lv (.int x :: .ref hh :: st) sg := by
  obtain ⟨p, l, e, R, s, m, args, below, meth, c, nL, D, A, Q⟩ := G
  obtain ⟨hx, hb, hml, hown, hts, hK, hN, hlk, hA, hR, hnL⟩ := F
  intro H locs ls hP hD hS hl
  obtain ⟨q, hq, -⟩ := cellAt_flat sg i j _ he
  obtain ⟨hc, h⟩ := inR_some h
  exact va_aldq hx hb hK hP q 3 hq rfl hc hd (K hc h H locs ls hP hD hS hl)
theorem g_mmin (F : Fx G cc Ts own cy nM rm) {index : Nat} {x y : Int32} (hd : decode cc pc = .ok (.invokestatic index, 3)) (hT : Cond.methodLink own index Lib.Math.min.name ∈ Ts ∧ Cond.static Lib.Math.min.name ∈ Ts ∧ Cond.initialized "java/lang/Math" ∈ Ts ∧ Cond.code Lib.Math.min.name Lib.Math.min.code 2 (some .int) ∈ Ts) (hr : 1 ≤ rm.frames ∧ (st.map fun v => v.category).sum + 13 ≤ rm.locals ∧ a ≤ rm.cells ∧ b ≤ rm.slots) (K : Go G a b (pc + 3) lv (.int (imin x y) :: st) sg) : Go G a b pc lv (.int y :: .int x :: st) sg := by
  obtain ⟨p, l, e, R, s, m, args, below, meth, c, nL, D, A, Q⟩ := G
  obtain ⟨hx, hb, hml, hown, hts, hK, hN, hlk, hA, hR, hnL⟩ := F
  intro H locs ls hP hD hS hl
  subst hR
  exact va_mmin hx hb (hml.trans hl.1.symm) hown (hts _ hT.1) (hts _ hT.2.1) (hts _ hT.2.2.1) (hts _ hT.2.2.2) hr.1 hr.2.1 hr.2.2.1 hr.2.2.2 hd (K H locs ls hP hD hS hl)
theorem g_mmax (F : Fx G cc Ts own cy nM rm) {index : Nat} {x y : Int32} (hd : decode cc pc = .ok (.invokestatic index, 3)) (hT : Cond.methodLink own index Lib.Math.max.name ∈ Ts ∧ Cond.static Lib.Math.max.name ∈ Ts ∧ Cond.initialized "java/lang/Math" ∈ Ts ∧ Cond.code Lib.Math.max.name Lib.Math.max.code 2 (some .int) ∈ Ts) (hr : 1 ≤ rm.frames ∧ (st.map fun v => v.category).sum + 13 ≤ rm.locals ∧ a ≤ rm.cells ∧ b ≤ rm.slots) (K : Go G a b (pc + 3) lv (.int (imax x y) :: st) sg) : Go G a b pc lv (.int y :: .int x :: st) sg := by
  obtain ⟨p, l, e, R, s, m, args, below, meth, c, nL, D, A, Q⟩ := G
  obtain ⟨hx, hb, hml, hown, hts, hK, hN, hlk, hA, hR, hnL⟩ := F
  intro H locs ls hP hD hS hl
  subst hR
  exact va_mmax hx hb (hml.trans hl.1.symm) hown (hts _ hT.1) (hts _ hT.2.1) (hts _ hT.2.2.1) (hts _ hT.2.2.2) hr.1 hr.2.1 hr.2.2.1 hr.2.2.2 hd (K H locs ls hP hD hS hl)
theorem g_copyi (F : Fx G cc Ts own cy nM rm) {index h0 hh n0 n1 : Nat} {f g : Nat → Int32} {sp dp n : Int32} (i0 j0 i j : Nat) (hd : decode cc pc = .ok (.invokestatic index, 3)) (hT : Cond.methodLink own index arraycopyName ∈ Ts ∧ Cond.native arraycopyName ∈ Ts ∧ Cond.static arraycopyName ∈ Ts ∧ Cond.initialized "java/lang/System" ∈ Ts) (he0 : cellAt sg i0 j0 = some (h0, .inl (cy 0, n0, .inl f))) (he : cellAt sg i j = some (hh, .inl (cy 0, n1, .inl g)))
    (h1 : ¬ sp < 0 ∧ ¬ dp < 0 ∧ ¬ n < 0 ∧ sp.toNatClampNeg + n.toNatClampNeg ≤ n0 ∧ dp.toNatClampNeg + n.toNatClampNeg ≤ n1) (hr : 1 ≤ rm.frames ∧ (st.map fun v => v.category).sum + (nativeFrameWords "java/lang/System" "arraycopy" 5 + 11) ≤ rm.locals) (hset : setCell sg i j (hh, .inl (cy 0, n1, .inl (va_cpy f g sp.toNatClampNeg dp.toNatClampNeg n.toNatClampNeg))) = sg') (K : Go G a b (pc + 3) lv st sg') : Go G a b pc lv (.int n :: .int dp :: .ref hh :: .int sp :: .ref h0 :: st) sg := by
  obtain ⟨p, l, e, R, s, m, args, below, meth, c, nL, D, A, Q⟩ := G
  obtain ⟨hx, hb, hml, hown, hts, hK, hN, hlk, hA, hR, hnL⟩ := F
  intro H locs ls hP hD hS hl
  subst hR
  obtain ⟨q0, hq0, -⟩ := cellAt_flat sg i0 j0 _ he0
  obtain ⟨q, hq, hs⟩ := cellAt_flat sg i j _ he
  refine va_copyi hx hb (hml.trans hl.1.symm) hown (hts _ hT.1) (hts _ hT.2.1) (hts _ hT.2.2.1) (hts _ hT.2.2.2) hK hP hD hS q0 q 0 0 hq0 hq rfl rfl rfl h1.1 h1.2.1 h1.2.2.1 h1.2.2.2.1 h1.2.2.2.2 (fun _ _ => rfl) hr.1 hr.2 hd (fun H locs hP hD hS => ?_)
  rw [hs, hset] at hP hD
  exact K H locs ls hP hD hS hl
theorem g_iret (F : Fx G cc Ts own cy nM rm) {nm : String} {v : Int32} {X : List va_W → Prop} (Rq : Rx G nm (some .int) (some (.int v)) X a b) (hX : X sg) (hd : decode cc pc = .ok (.ireturn, 1)) : Go G a b pc lv [.int v] sg := by
  obtain ⟨p, l, e, R, s, m, args, below, meth, c, nL, D, A, Q⟩ := G
  obtain ⟨hx, hb, hml, hown, hts, hK, hN, hlk, hA, hR, hnL⟩ := F
  intro H locs ls hP hD hS hl
  obtain ⟨hret, -, rfl⟩ := Rq
  exact W.iret hx hb hret (fun t ht hW => ⟨⟨rfl, sg, hX, by rw [ht]; exact hP, hD⟩, hS.F ht⟩) hS.2.2 hd hlk
theorem g_zret (F : Fx G cc Ts own cy nM rm) {nm : String} {v : Int32} {X : List va_W → Prop} (Rq : Rx G nm (some .boolean) (some (.int v)) X a b) (hX : X sg) (hn : narrow .boolean (.int v) = .int v) (hd : decode cc pc = .ok (.ireturn, 1)) : Go G a b pc lv [.int v] sg := by
  obtain ⟨p, l, e, R, s, m, args, below, meth, c, nL, D, A, Q⟩ := G
  obtain ⟨hx, hb, hml, hown, hts, hK, hN, hlk, hA, hR, hnL⟩ := F
  intro H locs ls hP hD hS hl
  obtain ⟨hret, -, rfl⟩ := Rq
  exact W.zret hx hb hret hn (fun t ht hW => ⟨⟨rfl, sg, hX, by rw [ht]; exact hP, hD⟩, hS.F ht⟩) hS.2.2 hd hlk
theorem g_lret (F : Fx G cc Ts own cy nM rm) {nm : String} {v : Int64} {X : List va_W → Prop} (Rq : Rx G nm (some .long) (some (.long v)) X a b) (hX : X sg) (hd : decode cc pc = .ok (.lreturn, 1)) : Go G a b pc lv [.long v] sg := by
  obtain ⟨p, l, e, R, s, m, args, below, meth, c, nL, D, A, Q⟩ := G
  obtain ⟨hx, hb, hml, hown, hts, hK, hN, hlk, hA, hR, hnL⟩ := F
  intro H locs ls hP hD hS hl
  obtain ⟨hret, -, rfl⟩ := Rq
  exact W.lret hx hb hret (fun t ht hW => ⟨⟨rfl, sg, hX, by rw [ht]; exact hP, hD⟩, hS.F ht⟩) hS.2.2 hd hlk
theorem g_vret (F : Fx G cc Ts own cy nM rm) {nm : String} {X : List va_W → Prop} (Rq : Rx G nm none none X a b) (hX : X sg) (hd : decode cc pc = .ok (.return_, 1)) : Go G a b pc lv [] sg := by
  obtain ⟨p, l, e, R, s, m, args, below, meth, c, nL, D, A, Q⟩ := G
  obtain ⟨hx, hb, hml, hown, hts, hK, hN, hlk, hA, hR, hnL⟩ := F
  intro H locs ls hP hD hS hl
  obtain ⟨hret, -, rfl⟩ := Rq
  exact W.vret hx hb hret (fun t ht hW => ⟨⟨rfl, sg, hX, by rw [ht]; exact hP, hD⟩, hS.F ht⟩) hS.2.2 hd hlk
theorem g_tin (F : Fx G cc Ts own cy nM rm) {dflt hi : Int} {offs : Array Int} {len : Nat} {x : Int32} {off : Int} (tgt : Nat) (hd : decode cc pc = .ok (.tableswitch dflt 0 hi offs, len)) (h1 : ¬ x.toInt < 0 ∧ ¬ hi < x.toInt) (ho : offs[(x.toInt - 0).toNat]? = some off) (ht : (pc : Int) + off = (tgt : Int)) (K : Go G a b tgt lv st sg) : Go G a b pc lv (.int x :: st) sg := by
  obtain ⟨p, l, e, R, s, m, args, below, meth, c, nL, D, A, Q⟩ := G
  obtain ⟨hx, hb, hml, hown, hts, hK, hN, hlk, hA, hR, hnL⟩ := F
  intro H locs ls hP hD hS hl
  exact lv_tableIn hx hb hd h1.1 h1.2 ho ht (K H locs ls hP hD hS hl)
theorem g_tout (F : Fx G cc Ts own cy nM rm) {dflt hi : Int} {offs : Array Int} {len : Nat} {x : Int32} (tgt : Nat) (hd : decode cc pc = .ok (.tableswitch dflt 0 hi offs, len)) (h1 : x.toInt < 0 ∨ hi < x.toInt) (ht : (pc : Int) + dflt = (tgt : Int)) (K : Go G a b tgt lv st sg) : Go G a b pc lv (.int x :: st) sg := by
  obtain ⟨p, l, e, R, s, m, args, below, meth, c, nL, D, A, Q⟩ := G
  obtain ⟨hx, hb, hml, hown, hts, hK, hN, hlk, hA, hR, hnL⟩ := F
  intro H locs ls hP hD hS hl
  exact lv_tableOut hx hb hd h1 ht (K H locs ls hP hD hS hl)
theorem g_callV (F : Fx G cc Ts own cy nM rm) {y : MethodName} {C : String} {T0 : u_T} {N0 ci : Nat} {fs : List Value} {ws ws' : List Cond} {rmc : Room} {bytes : ByteArray} {maxL index mc ms : Nat} {ret : Option FieldType} {hh : Nat} {cs : List va_W} {rv : Option Value} {X : List va_W → Prop} {stk : List Value} (As : List Value) (i j : Nat) (hM : OKx (gl G) (gD G) cy y ws rmc (.ref hh :: As) cs rv X mc ms) (hd : decode cc pc = .ok (.invokevirtual index, 3)) (hc : vwCl[ci]? = some (C, T0, N0)) (he : cellAt cs i j = some (hh, .inr (ci, fs))) (hT : GoodIn Ts (wsV own index C y ws)) (hw : ws = Cond.code y bytes maxL ret :: ws') (hd0 : y.cls = C ∧ y.cls ≠ "java/lang/invoke/MethodHandle" ∧ y.cls ≠ "java/lang/invoke/VarHandle" ∧ (parseMethodDescriptor y.desc).map (fun d => d.parameters.length) = some As.length) (hR2 : rmc.cells = mc ∧ rmc.slots = ms ∧ rmc.frames + 1 ≤ rm.frames ∧ 8 + (maxL + 11) + rmc.locals ≤ rm.locals ∧ a + mc ≤ rm.cells ∧ b + ms ≤ rm.slots) (hst : stk = As.reverse ++ .ref hh :: st) (hsum : (st.map fun v => v.category).sum ≤ 8)
    (ks : List Nat) (hn : ks.Nodup) (hk : ks.map (fun k => sg[k]?) = cs.map some) (K : ∀ cs', X cs' → cs'.length = cs.length ∧ Go G (a + mc) (b + ms) (pc + 3) lv (rv.toList ++ st) (sgPut sg ks cs')) : Go G a b pc lv stk sg := by
  obtain ⟨p, l, e, R, s, m, args, below, meth, c, nL, D, A, Q⟩ := G
  obtain ⟨hx, hb, hml, hown, hts, hK, hN, hlk, hA, hR, hnL⟩ := F
  subst hR
  intro H locs ls hP hD hS hl
  subst hst
  obtain ⟨r, e1, -⟩ := flat_pick ks sg cs hn hk
  have hPc : va_P D vwCl cs.flatten H := vaP_perm (fun q hq => e1.mem_iff.mpr (List.mem_append_left _ hq)) hP
  have hDc : va_D (fun _ => True) cs.flatten := by
    have h1 := vaD_iff.mp (vaD_perm e1 hD)
    rw [List.map_append, List.nodup_append] at h1
    exact vaD_iff.mpr ⟨h1.1.1, fun _ _ => trivial⟩
  have hFc : ∀ q, va_A cs.flatten H.size q → A q := by
    intro q h
    rcases h with ⟨k, e, h⟩ | h
    · exact (vaD_iff.mp (vaD_perm e1 hD)).2 (q, e) (List.mem_append_left _ (List.mem_of_getElem? h))
    · exact hA q (Nat.le_trans hS.1 h)
  have hbl : FrameBlind (cPre D cy cs H.size (.ref hh :: As)) := fun a U g mk q => by obtain ⟨q0, q1, qP, qK, qD, qN⟩ := q; exact ⟨q0, q1, qP, va_K.moved (u := U) (U := U.calling g mk a) (Vm.Alike.refl U.vm) qK, qD, nw_ok.same rfl qN⟩
  have hpre : ∀ U : State, U.heap = H → s.WarmedH U.vm → cPre D cy cs H.size (.ref hh :: As) (.ref hh :: As).toArray U := fun U hU hW => ⟨rfl, by rw [hU], by rw [hU]; exact hPc, va_K.moved hW.alike hK, hDc, hN.warm hW⟩
  have hrun := va_runV (e := e) (cells := a) (slots := b) (g := F0 m pc ls (As.reverse ++ .ref hh :: st)) (below := below) (meth := meth) (locs := locs) (As := As) (rest := st) ⟨hx, hb, hml, hown, hts⟩ (hM H.size) (cwV As.length hts hT hw hR2.1 hR2.2.1 hd0 ⟨hR2.2.2.1, hR2.2.2.2.1⟩) ⟨hbl, (by obtain ⟨q, hq, -⟩ := cellAt_flat cs i j _ he; exact va_recv hK hPc hc hq), hpre⟩ rfl rfl hl.1 rfl (lv_room hsum) hd ⟨hR2.2.2.2.2.1, hR2.2.2.2.2.2⟩
  intro T hT0 X0
  obtain ⟨v, st₀, t, T', L, h0, X', hL, e3, e4, ⟨⟨hv, cs', hX, hP1, hD1⟩, hz, hkp⟩, stp⟩ := hrun T hT0 X0
  cases hv
  rw [h0] at hz hkp
  obtain ⟨hlen, hGo⟩ := K cs' hX
  obtain ⟨hP2, hD2⟩ := sg_join (H1 := t.heap) ks hn hk hlen hP hD hkp hFc hP1 hD1
  obtain ⟨t2, a1, b1⟩ := hGo T'.heap (locs ++ L) ls (by rw [e3]; exact hP2) hD2 ⟨Nat.le_trans hS.1 (by rw [e3]; exact hz), fun q h1 h2 => by rw [e3, hkp q (Nat.lt_of_lt_of_le h1 hS.1) (fun z => h2 (hFc q z))]; exact hS.2.1 q h1 h2, fun q hq => by
      rcases List.mem_append.mp hq with h | h
      · exact hS.2.2 q h
      · exact hFc _ (hL q h)⟩ hl T' rfl X'
  exact ⟨t2, stp t2 a1, b1⟩
theorem g_callS (F : Fx G cc Ts own cy nM rm) {y : MethodName} {ws ws' : List Cond} {rmc : Room} {bytes : ByteArray} {maxL index mc ms : Nat} {ret : Option FieldType} {cs : List va_W} {rv : Option Value} {X : List va_W → Prop} {stk : List Value} (As : List Value) (hM : OKx (gl G) (gD G) cy y ws rmc (As) cs rv X mc ms) (hd : decode cc pc = .ok (.invokestatic index, 3)) (hT : GoodIn Ts (va_wsS own index y ws)) (hw : ws = Cond.code y bytes maxL ret :: ws') (hd0 : y.cls ≠ "java/lang/invoke/MethodHandle" ∧ y.cls ≠ "java/lang/invoke/VarHandle" ∧ (parseMethodDescriptor y.desc).map (fun d => d.parameters.length) = some As.length) (hR2 : rmc.cells = mc ∧ rmc.slots = ms ∧ rmc.frames + 1 ≤ rm.frames ∧ 8 + (maxL + 11) + rmc.locals ≤ rm.locals ∧ a + mc ≤ rm.cells ∧ b + ms ≤ rm.slots) (hst : stk = As.reverse ++ st) (hsum : (st.map fun v => v.category).sum ≤ 8)
    (ks : List Nat) (hn : ks.Nodup) (hk : ks.map (fun k => sg[k]?) = cs.map some) (K : ∀ cs', X cs' → cs'.length = cs.length ∧ Go G (a + mc) (b + ms) (pc + 3) lv (rv.toList ++ st) (sgPut sg ks cs')) : Go G a b pc lv stk sg := by
  obtain ⟨p, l, e, R, s, m, args, below, meth, c, nL, D, A, Q⟩ := G
  obtain ⟨hx, hb, hml, hown, hts, hK, hN, hlk, hA, hR, hnL⟩ := F
  subst hR
  intro H locs ls hP hD hS hl
  subst hst
  obtain ⟨r, e1, -⟩ := flat_pick ks sg cs hn hk
  have hPc : va_P D vwCl cs.flatten H := vaP_perm (fun q hq => e1.mem_iff.mpr (List.mem_append_left _ hq)) hP
  have hDc : va_D (fun _ => True) cs.flatten := by
    have h1 := vaD_iff.mp (vaD_perm e1 hD)
    rw [List.map_append, List.nodup_append] at h1
    exact vaD_iff.mpr ⟨h1.1.1, fun _ _ => trivial⟩
  have hFc : ∀ q, va_A cs.flatten H.size q → A q := by
    intro q h
    rcases h with ⟨k, e, h⟩ | h
    · exact (vaD_iff.mp (vaD_perm e1 hD)).2 (q, e) (List.mem_append_left _ (List.mem_of_getElem? h))
    · exact hA q (Nat.le_trans hS.1 h)
  have hbl : FrameBlind (cPre D cy cs H.size (As)) := fun a U g mk q => by obtain ⟨q0, q1, qP, qK, qD, qN⟩ := q; exact ⟨q0, q1, qP, va_K.moved (u := U) (U := U.calling g mk a) (Vm.Alike.refl U.vm) qK, qD, nw_ok.same rfl qN⟩
  have hpre : ∀ U : State, U.heap = H → s.WarmedH U.vm → cPre D cy cs H.size (As) (As).toArray U := fun U hU hW => ⟨rfl, by rw [hU], by rw [hU]; exact hPc, va_K.moved hW.alike hK, hDc, hN.warm hW⟩
  have hrun := va_runS (e := e) (cells := a) (slots := b) (g := F0 m pc ls (As.reverse ++ st)) (below := below) (meth := meth) (locs := locs) (As := As) (rest := st) ⟨hx, hb, hml, hown, hts⟩ (hM H.size) (va_cwS As.length hts hT hw hR2.1 hR2.2.1 hd0 ⟨hR2.2.2.1, hR2.2.2.2.1⟩) ⟨hbl, hpre⟩ rfl rfl hl.1 rfl (lv_room hsum) hd ⟨hR2.2.2.2.2.1, hR2.2.2.2.2.2⟩
  intro T hT0 X0
  obtain ⟨v, st₀, t, T', L, h0, X', hL, e3, e4, ⟨⟨hv, cs', hX, hP1, hD1⟩, hz, hkp⟩, stp⟩ := hrun T hT0 X0
  cases hv
  rw [h0] at hz hkp
  obtain ⟨hlen, hGo⟩ := K cs' hX
  obtain ⟨hP2, hD2⟩ := sg_join (H1 := t.heap) ks hn hk hlen hP hD hkp hFc hP1 hD1
  obtain ⟨t2, a1, b1⟩ := hGo T'.heap (locs ++ L) ls (by rw [e3]; exact hP2) hD2 ⟨Nat.le_trans hS.1 (by rw [e3]; exact hz), fun q h1 h2 => by rw [e3, hkp q (Nat.lt_of_lt_of_le h1 hS.1) (fun z => h2 (hFc q z))]; exact hS.2.1 q h1 h2, fun q hq => by
      rcases List.mem_append.mp hq with h | h
      · exact hS.2.2 q h
      · exact hFc _ (hL q h)⟩ hl T' rfl X'
  exact ⟨t2, stp t2 a1, b1⟩
theorem g_callSN (F : Fx G cc Ts own cy nM rm) {y : MethodName} {ws ws' : List Cond} {rmc : Room} {bytes : ByteArray} {maxL index mc ms : Nat} {ret : Option FieldType} {cs : List va_W} {rv : Option Value} {X : List va_W → Prop} {stk : List Value} (As : List Value) (hM : OKx (gl G) (gD G) cy y ws rmc (As) cs rv X mc ms) (hd : decode cc pc = .ok (.invokestatic index, 3)) (hT : GoodIn Ts ws) (hw : ws = Cond.code y bytes maxL ret :: ws') (hst2 : Cond.static y ∈ Ts) (hini : Cond.initialized y.cls ∈ Ts) (hnest : ∀ U, nw_ok U → va_Nw (.methodLinkNest own index y "ArcOrder") U) (hd0 : y.cls ≠ "java/lang/invoke/MethodHandle" ∧ y.cls ≠ "java/lang/invoke/VarHandle" ∧ (parseMethodDescriptor y.desc).map (fun d => d.parameters.length) = some As.length) (hR2 : rmc.cells = mc ∧ rmc.slots = ms ∧ rmc.frames + 1 ≤ rm.frames ∧ 8 + (maxL + 11) + rmc.locals ≤ rm.locals ∧ a + mc ≤ rm.cells ∧ b + ms ≤ rm.slots) (hst : stk = As.reverse ++ st) (hsum : (st.map fun v => v.category).sum ≤ 8)
    (ks : List Nat) (hn : ks.Nodup) (hk : ks.map (fun k => sg[k]?) = cs.map some) (K : ∀ cs', X cs' → cs'.length = cs.length ∧ Go G (a + mc) (b + ms) (pc + 3) lv (rv.toList ++ st) (sgPut sg ks cs')) : Go G a b pc lv stk sg := by
  obtain ⟨p, l, e, R, s, m, args, below, meth, c, nL, D, A, Q⟩ := G
  obtain ⟨hx, hb, hml, hown, hts, hK, hN, hlk, hA, hR, hnL⟩ := F
  subst hR
  intro H locs ls hP hD hS hl
  subst hst
  obtain ⟨r, e1, -⟩ := flat_pick ks sg cs hn hk
  have hPc : va_P D vwCl cs.flatten H := vaP_perm (fun q hq => e1.mem_iff.mpr (List.mem_append_left _ hq)) hP
  have hDc : va_D (fun _ => True) cs.flatten := by
    have h1 := vaD_iff.mp (vaD_perm e1 hD)
    rw [List.map_append, List.nodup_append] at h1
    exact vaD_iff.mpr ⟨h1.1.1, fun _ _ => trivial⟩
  have hFc : ∀ q, va_A cs.flatten H.size q → A q := by
    intro q h
    rcases h with ⟨k, e, h⟩ | h
    · exact (vaD_iff.mp (vaD_perm e1 hD)).2 (q, e) (List.mem_append_left _ (List.mem_of_getElem? h))
    · exact hA q (Nat.le_trans hS.1 h)
  have hbl : FrameBlind (cPre D cy cs H.size (As)) := fun a U g mk q => by obtain ⟨q0, q1, qP, qK, qD, qN⟩ := q; exact ⟨q0, q1, qP, va_K.moved (u := U) (U := U.calling g mk a) (Vm.Alike.refl U.vm) qK, qD, nw_ok.same rfl qN⟩
  have hpre : ∀ U : State, U.heap = H → s.WarmedH U.vm → cPre D cy cs H.size (As) (As).toArray U := fun U hU hW => ⟨rfl, by rw [hU], by rw [hU]; exact hPc, va_K.moved hW.alike hK, hDc, hN.warm hW⟩
  have hrun := va_runSN (e := e) (cells := a) (slots := b) (g := F0 m pc ls (As.reverse ++ st)) (below := below) (meth := meth) (locs := locs) (As := As) (rest := st) ⟨hx, hb, hml, hown, hts⟩ (hM H.size) ⟨va_cnB As.length hts hT hw hR2.1 hR2.2.1 (hnest s hN) (hts _ hini) hd0 ⟨hR2.2.2.1, hR2.2.2.2.1⟩, hts _ hst2, trivial⟩ ⟨hbl, hpre⟩ rfl rfl hl.1 rfl (lv_room hsum) hd ⟨hR2.2.2.2.2.1, hR2.2.2.2.2.2⟩
  intro T hT0 X0
  obtain ⟨v, st₀, t, T', L, h0, X', hL, e3, e4, ⟨⟨hv, cs', hX, hP1, hD1⟩, hz, hkp⟩, stp⟩ := hrun T hT0 X0
  cases hv
  rw [h0] at hz hkp
  obtain ⟨hlen, hGo⟩ := K cs' hX
  obtain ⟨hP2, hD2⟩ := sg_join (H1 := t.heap) ks hn hk hlen hP hD hkp hFc hP1 hD1
  obtain ⟨t2, a1, b1⟩ := hGo T'.heap (locs ++ L) ls (by rw [e3]; exact hP2) hD2 ⟨Nat.le_trans hS.1 (by rw [e3]; exact hz), fun q h1 h2 => by rw [e3, hkp q (Nat.lt_of_lt_of_le h1 hS.1) (fun z => h2 (hFc q z))]; exact hS.2.1 q h1 h2, fun q hq => by
      rcases List.mem_append.mp hq with h | h
      · exact hS.2.2 q h
      · exact hFc _ (hL q h)⟩ hl T' rfl X'
  exact ⟨t2, stp t2 a1, b1⟩
theorem g_callI (F : Fx G cc Ts own cy nM rm) {y : MethodName} {ws ws' : List Cond} {rmc : Room} {bytes : ByteArray} {maxL index mc ms : Nat} {ret : Option FieldType} {hh : Nat} {cs : List va_W} {rv : Option Value} {X : List va_W → Prop} {stk : List Value} (As : List Value) (hM : OKx (gl G) (gD G) cy y ws rmc (.ref hh :: As) cs rv X mc ms) (hd : decode cc pc = .ok (.invokespecial index, 3)) (hT : GoodIn Ts ws) (hw : ws = Cond.code y bytes maxL ret :: ws') (hret : ret = none) (hini : Cond.initialized y.cls ∈ Ts) (hlk2 : Cond.methodLink own index y ∈ Ts) (hin2 : Cond.instanceMethod y ∈ Ts) (hy1 : y.name = "<init>") (hd0 : y.cls ≠ "java/lang/invoke/MethodHandle" ∧ y.cls ≠ "java/lang/invoke/VarHandle" ∧ (parseMethodDescriptor y.desc).map (fun d => d.parameters.length) = some As.length) (hR2 : rmc.cells = mc ∧ rmc.slots = ms ∧ rmc.frames + 1 ≤ rm.frames ∧ 8 + (maxL + 11) + rmc.locals ≤ rm.locals ∧ a + mc ≤ rm.cells ∧ b + ms ≤ rm.slots) (hst : stk = As.reverse ++ .ref hh :: st) (hsum : (st.map fun v => v.category).sum ≤ 8)
    (ks : List Nat) (hn : ks.Nodup) (hk : ks.map (fun k => sg[k]?) = cs.map some) (K : ∀ cs', X cs' → cs'.length = cs.length ∧ Go G (a + mc) (b + ms) (pc + 3) lv (rv.toList ++ st) (sgPut sg ks cs')) : Go G a b pc lv stk sg := by
  obtain ⟨p, l, e, R, s, m, args, below, meth, c, nL, D, A, Q⟩ := G
  obtain ⟨hx, hb, hml, hown, hts, hK, hN, hlk, hA, hR, hnL⟩ := F
  subst hR
  intro H locs ls hP hD hS hl
  subst hst
  obtain ⟨r, e1, -⟩ := flat_pick ks sg cs hn hk
  have hPc : va_P D vwCl cs.flatten H := vaP_perm (fun q hq => e1.mem_iff.mpr (List.mem_append_left _ hq)) hP
  have hDc : va_D (fun _ => True) cs.flatten := by
    have h1 := vaD_iff.mp (vaD_perm e1 hD)
    rw [List.map_append, List.nodup_append] at h1
    exact vaD_iff.mpr ⟨h1.1.1, fun _ _ => trivial⟩
  have hFc : ∀ q, va_A cs.flatten H.size q → A q := by
    intro q h
    rcases h with ⟨k, e, h⟩ | h
    · exact (vaD_iff.mp (vaD_perm e1 hD)).2 (q, e) (List.mem_append_left _ (List.mem_of_getElem? h))
    · exact hA q (Nat.le_trans hS.1 h)
  have hbl : FrameBlind (cPre D cy cs H.size (.ref hh :: As)) := fun a U g mk q => by obtain ⟨q0, q1, qP, qK, qD, qN⟩ := q; exact ⟨q0, q1, qP, va_K.moved (u := U) (U := U.calling g mk a) (Vm.Alike.refl U.vm) qK, qD, nw_ok.same rfl qN⟩
  have hpre : ∀ U : State, U.heap = H → s.WarmedH U.vm → cPre D cy cs H.size (.ref hh :: As) (.ref hh :: As).toArray U := fun U hU hW => ⟨rfl, by rw [hU], by rw [hU]; exact hPc, va_K.moved hW.alike hK, hDc, hN.warm hW⟩
  have hrun := va_runI (e := e) (cells := a) (slots := b) (g := F0 m pc ls (As.reverse ++ .ref hh :: st)) (below := below) (meth := meth) (locs := locs) (As := As) (rest := st) ⟨hx, hb, hml, hown, hts⟩ (hM H.size) (cwI As.length hts hT (by rw [← hret]; exact hw) hR2.1 hR2.2.1 (hts _ hini) (hts _ hlk2) (hts _ hin2) hy1 hd0 ⟨hR2.2.2.1, hR2.2.2.2.1⟩) ⟨hbl, hpre⟩ rfl rfl hl.1 rfl (lv_room hsum) hd ⟨hR2.2.2.2.2.1, hR2.2.2.2.2.2⟩
  intro T hT0 X0
  obtain ⟨v, st₀, t, T', L, h0, X', hL, e3, e4, ⟨⟨hv, cs', hX, hP1, hD1⟩, hz, hkp⟩, stp⟩ := hrun T hT0 X0
  cases hv
  rw [h0] at hz hkp
  obtain ⟨hlen, hGo⟩ := K cs' hX
  obtain ⟨hP2, hD2⟩ := sg_join (H1 := t.heap) ks hn hk hlen hP hD hkp hFc hP1 hD1
  obtain ⟨t2, a1, b1⟩ := hGo T'.heap (locs ++ L) ls (by rw [e3]; exact hP2) hD2 ⟨Nat.le_trans hS.1 (by rw [e3]; exact hz), fun q h1 h2 => by rw [e3, hkp q (Nat.lt_of_lt_of_le h1 hS.1) (fun z => h2 (hFc q z))]; exact hS.2.1 q h1 h2, fun q hq => by
      rcases List.mem_append.mp hq with h | h
      · exact hS.2.2 q h
      · exact hFc _ (hL q h)⟩ hl T' rfl X'
  exact ⟨t2, stp t2 a1, b1⟩
theorem g_callIN (F : Fx G cc Ts own cy nM rm) {y : MethodName} {ws ws' : List Cond} {rmc : Room} {bytes : ByteArray} {maxL index mc ms : Nat} {ret : Option FieldType} {hh : Nat} {cs : List va_W} {rv : Option Value} {X : List va_W → Prop} {stk : List Value} (As : List Value) (hM : OKx (gl G) (gD G) cy y ws rmc (.ref hh :: As) cs rv X mc ms) (hd : decode cc pc = .ok (.invokespecial index, 3)) (hT : GoodIn Ts ws) (hw : ws = Cond.code y bytes maxL ret :: ws') (hret : ret = none) (hini : Cond.initialized y.cls ∈ Ts) (hin2 : Cond.instanceMethod y ∈ Ts) (hy1 : y.name = "<init>") (hnest : ∀ U, nw_ok U → va_Nw (.methodLinkNest own index y "ArcOrder") U) (hd0 : y.cls ≠ "java/lang/invoke/MethodHandle" ∧ y.cls ≠ "java/lang/invoke/VarHandle" ∧ (parseMethodDescriptor y.desc).map (fun d => d.parameters.length) = some As.length) (hR2 : rmc.cells = mc ∧ rmc.slots = ms ∧ rmc.frames + 1 ≤ rm.frames ∧ 8 + (maxL + 11) + rmc.locals ≤ rm.locals ∧ a + mc ≤ rm.cells ∧ b + ms ≤ rm.slots) (hst : stk = As.reverse ++ .ref hh :: st) (hsum : (st.map fun v => v.category).sum ≤ 8)
    (ks : List Nat) (hn : ks.Nodup) (hk : ks.map (fun k => sg[k]?) = cs.map some) (K : ∀ cs', X cs' → cs'.length = cs.length ∧ Go G (a + mc) (b + ms) (pc + 3) lv (rv.toList ++ st) (sgPut sg ks cs')) : Go G a b pc lv stk sg := by
  obtain ⟨p, l, e, R, s, m, args, below, meth, c, nL, D, A, Q⟩ := G
  obtain ⟨hx, hb, hml, hown, hts, hK, hN, hlk, hA, hR, hnL⟩ := F
  subst hR
  intro H locs ls hP hD hS hl
  subst hst
  obtain ⟨r, e1, -⟩ := flat_pick ks sg cs hn hk
  have hPc : va_P D vwCl cs.flatten H := vaP_perm (fun q hq => e1.mem_iff.mpr (List.mem_append_left _ hq)) hP
  have hDc : va_D (fun _ => True) cs.flatten := by
    have h1 := vaD_iff.mp (vaD_perm e1 hD)
    rw [List.map_append, List.nodup_append] at h1
    exact vaD_iff.mpr ⟨h1.1.1, fun _ _ => trivial⟩
  have hFc : ∀ q, va_A cs.flatten H.size q → A q := by
    intro q h
    rcases h with ⟨k, e, h⟩ | h
    · exact (vaD_iff.mp (vaD_perm e1 hD)).2 (q, e) (List.mem_append_left _ (List.mem_of_getElem? h))
    · exact hA q (Nat.le_trans hS.1 h)
  have hbl : FrameBlind (cPre D cy cs H.size (.ref hh :: As)) := fun a U g mk q => by obtain ⟨q0, q1, qP, qK, qD, qN⟩ := q; exact ⟨q0, q1, qP, va_K.moved (u := U) (U := U.calling g mk a) (Vm.Alike.refl U.vm) qK, qD, nw_ok.same rfl qN⟩
  have hpre : ∀ U : State, U.heap = H → s.WarmedH U.vm → cPre D cy cs H.size (.ref hh :: As) (.ref hh :: As).toArray U := fun U hU hW => ⟨rfl, by rw [hU], by rw [hU]; exact hPc, va_K.moved hW.alike hK, hDc, hN.warm hW⟩
  have hrun := va_runIN (e := e) (cells := a) (slots := b) (g := F0 m pc ls (As.reverse ++ .ref hh :: st)) (below := below) (meth := meth) (locs := locs) (As := As) (rest := st) ⟨hx, hb, hml, hown, hts⟩ (hM H.size) ⟨va_cnB As.length hts hT (by rw [← hret]; exact hw) hR2.1 hR2.2.1 (hnest s hN) (hts _ hini) hd0 ⟨hR2.2.2.1, hR2.2.2.2.1⟩, hy1, hts _ hin2⟩ ⟨hbl, hpre⟩ rfl rfl hl.1 rfl (lv_room hsum) hd ⟨hR2.2.2.2.2.1, hR2.2.2.2.2.2⟩
  intro T hT0 X0
  obtain ⟨v, st₀, t, T', L, h0, X', hL, e3, e4, ⟨⟨hv, cs', hX, hP1, hD1⟩, hz, hkp⟩, stp⟩ := hrun T hT0 X0
  cases hv
  rw [h0] at hz hkp
  obtain ⟨hlen, hGo⟩ := K cs' hX
  obtain ⟨hP2, hD2⟩ := sg_join (H1 := t.heap) ks hn hk hlen hP hD hkp hFc hP1 hD1
  obtain ⟨t2, a1, b1⟩ := hGo T'.heap (locs ++ L) ls (by rw [e3]; exact hP2) hD2 ⟨Nat.le_trans hS.1 (by rw [e3]; exact hz), fun q h1 h2 => by rw [e3, hkp q (Nat.lt_of_lt_of_le h1 hS.1) (fun z => h2 (hFc q z))]; exact hS.2.1 q h1 h2, fun q hq => by
      rcases List.mem_append.mp hq with h | h
      · exact hS.2.2 q h
      · exact hFc _ (hL q h)⟩ hl T' rfl X'
  exact ⟨t2, stp t2 a1, b1⟩
theorem g_new (F : Fx G cc Ts own cy nM rm) {C : String} {T : u_T} {N ci index : Nat} {fs : List Value} (hin : ∀ w ∈ u_ws C T N, w ∈ Ts) (ty0 : Nat → FieldType) (hty : ∀ k, k < N → parseFieldDescriptor (T k).2.2.1 = some (ty0 k)) (hd : decode cc pc = .ok (.new index, 3)) (hc : vwCl[ci]? = some (C, T, N)) (hcl : Cond.classLink own index C ∈ Ts) (hinst : Cond.instantiable C N ∈ Ts) (hini : Cond.initialized C ∈ Ts) (hfs : (List.range N).all (fun j => decide (defaultValue (ty0 j) = vp_V fs j)) = true) (hr : a + 1 ≤ rm.cells ∧ b + N ≤ rm.slots) (K : ∀ q, Go G (a + 1) (b + N) (pc + 3) lv (.ref q :: st) (sg ++ [[(q, .inr (ci, fs))]])) : Go G a b pc lv st sg := by
  obtain ⟨p, l, e, R, s, m, args, below, meth, c, nL, D, A, Q⟩ := G
  obtain ⟨hx, hb, hml, hown, hts, hK, hN, hlk, hA, hR, hnL⟩ := F
  intro H locs ls hP hD hS hl
  subst hR
  refine va_new hx hb hts hin ty0 hty hown (hts _ hcl) (hts _ hinst) (hts _ hini) hK hP hD hS hA hc (fun j hj => of_decide_eq_true (List.all_eq_true.mp hfs j (List.mem_range.mpr hj))) hr.1 hr.2 hd (fun q H hP hD hS => ?_)
  exact K q H locs ls (by rw [List.flatten_append]; simpa using hP) (by rw [List.flatten_append]; simpa using hD) hS hl
theorem g_newa (F : Fx G cc Ts own cy nM rm) {atype : ArrayType} {n : Int32} {N t0 : Nat} {ty : FieldType} {a0 : vp_A} (hd : decode cc pc = .ok (.newarray atype, 2)) (hw : Cond.arrayClass (newarray.typeOf atype) ∈ Ts) (hty : newarray.typeOf atype = ty) (ht : (ty4 cy)[t0]? = some (cy t0, ty)) (hp : ∀ U c1 c2, va_RA U c1 ty → va_RA U c2 ty → c1 = c2) (ha : ∀ cA : ClassId, vp_cell cA a0 = arrV cA N (fun _ => defaultValue ty)) (hn : ¬ n < 0) (hNn : n.toNatClampNeg = N) (hby : N * componentBytes ty ≤ 536870912) (hr : a + 1 ≤ rm.cells ∧ b + N ≤ rm.slots) (K : ∀ q, Go G (a + 1) (b + N) (pc + 2) lv (.ref q :: st) (sg ++ [[(q, .inl (cy t0, a0))]])) : Go G a b pc lv (.int n :: st) sg := by
  obtain ⟨p, l, e, R, s, m, args, below, meth, c, nL, D, A, Q⟩ := G
  obtain ⟨hx, hb, hml, hown, hts, hK, hN, hlk, hA, hR, hnL⟩ := F
  intro H locs ls hP hD hS hl
  subst hR
  refine va_newa hx hb (hts _ hw) hty hK hP hD hS hA ha hn hNn hby hr.1 hr.2 hd (fun q cA H hK2 hP hD hS => ?_)
  have e1 : cA = cy t0 := hp s cA (cy t0) (hK2.2 4 (cA, ty) rfl).2 (hK.2 t0 _ ht).2
  subst e1
  exact K q H locs ls (by rw [List.flatten_append]; simpa using hP) (by rw [List.flatten_append]; simpa using hD) hS hl
theorem g_cV (F : Fx G cc Ts own cy nM rm) {y : MethodName} {C : String} {T0 : u_T} {N0 ci : Nat} {fs : List Value} {ws ws' : List Cond} {rmc : Room} {bytes : ByteArray} {maxL index : Nat} {ret : Option FieldType} {hh : Nat} {cs cs' : List va_W} {rv : Option Value} {stk st' : List Value} (As : List Value) (i j : Nat) (hM : OK (gl G) (gD G) cy y ws rmc (.ref hh :: As) cs rv cs') (hd : decode cc pc = .ok (.invokevirtual index, 3)) (hc : vwCl[ci]? = some (C, T0, N0)) (he : cellAt cs i j = some (hh, .inr (ci, fs))) (hT : GoodIn Ts (wsV own index C y ws)) (hw : ws = Cond.code y bytes maxL ret :: ws') (hd0 : y.cls = C ∧ y.cls ≠ "java/lang/invoke/MethodHandle" ∧ y.cls ≠ "java/lang/invoke/VarHandle" ∧ (parseMethodDescriptor y.desc).map (fun d => d.parameters.length) = some As.length) (hR2 : rmc.cells = 0 ∧ rmc.slots = 0 ∧ rmc.frames + 1 ≤ rm.frames ∧ 8 + (maxL + 11) + rmc.locals ≤ rm.locals ∧ a ≤ rm.cells ∧ b ≤ rm.slots) (hst : stk = As.reverse ++ .ref hh :: st) (hsum : (st.map fun v => v.category).sum ≤ 8)
    (ks : List Nat) (hn : ks.Nodup) (hk : ks.map (fun k => sg[k]?) = cs.map some) (hlen : cs'.length = cs.length) (hput : sgPut sg ks cs' = sg') (hrv : rv.toList ++ st = st') (K : Go G a b (pc + 3) lv st' sg') : Go G a b pc lv stk sg := by
  refine g_callV F As i j hM hd hc he hT hw hd0 hR2 hst hsum ks hn hk (fun z e => ?_)
  subst e
  refine ⟨hlen, ?_⟩
  rw [hput, hrv]
  exact K
theorem g_cS (F : Fx G cc Ts own cy nM rm) {y : MethodName} {ws ws' : List Cond} {rmc : Room} {bytes : ByteArray} {maxL index : Nat} {ret : Option FieldType} {cs cs' : List va_W} {rv : Option Value} {stk st' : List Value} (As : List Value) (hM : OK (gl G) (gD G) cy y ws rmc (As) cs rv cs') (hd : decode cc pc = .ok (.invokestatic index, 3)) (hT : GoodIn Ts (va_wsS own index y ws)) (hw : ws = Cond.code y bytes maxL ret :: ws') (hd0 : y.cls ≠ "java/lang/invoke/MethodHandle" ∧ y.cls ≠ "java/lang/invoke/VarHandle" ∧ (parseMethodDescriptor y.desc).map (fun d => d.parameters.length) = some As.length) (hR2 : rmc.cells = 0 ∧ rmc.slots = 0 ∧ rmc.frames + 1 ≤ rm.frames ∧ 8 + (maxL + 11) + rmc.locals ≤ rm.locals ∧ a ≤ rm.cells ∧ b ≤ rm.slots) (hst : stk = As.reverse ++ st) (hsum : (st.map fun v => v.category).sum ≤ 8)
    (ks : List Nat) (hn : ks.Nodup) (hk : ks.map (fun k => sg[k]?) = cs.map some) (hlen : cs'.length = cs.length) (hput : sgPut sg ks cs' = sg') (hrv : rv.toList ++ st = st') (K : Go G a b (pc + 3) lv st' sg') : Go G a b pc lv stk sg := by
  refine g_callS F As hM hd hT hw hd0 hR2 hst hsum ks hn hk (fun z e => ?_)
  subst e
  refine ⟨hlen, ?_⟩
  rw [hput, hrv]
  exact K
theorem g_cSN (F : Fx G cc Ts own cy nM rm) {y : MethodName} {ws ws' : List Cond} {rmc : Room} {bytes : ByteArray} {maxL index : Nat} {ret : Option FieldType} {cs cs' : List va_W} {rv : Option Value} {stk st' : List Value} (As : List Value) (hM : OK (gl G) (gD G) cy y ws rmc (As) cs rv cs') (hd : decode cc pc = .ok (.invokestatic index, 3)) (hT : GoodIn Ts ws) (hsi : Cond.static y ∈ Ts ∧ Cond.initialized y.cls ∈ Ts) (hnest : ∀ U, nw_ok U → va_Nw (.methodLinkNest own index y "ArcOrder") U) (hw : ws = Cond.code y bytes maxL ret :: ws') (hd0 : y.cls ≠ "java/lang/invoke/MethodHandle" ∧ y.cls ≠ "java/lang/invoke/VarHandle" ∧ (parseMethodDescriptor y.desc).map (fun d => d.parameters.length) = some As.length) (hR2 : rmc.cells = 0 ∧ rmc.slots = 0 ∧ rmc.frames + 1 ≤ rm.frames ∧ 8 + (maxL + 11) + rmc.locals ≤ rm.locals ∧ a ≤ rm.cells ∧ b ≤ rm.slots) (hst : stk = As.reverse ++ st) (hsum : (st.map fun v => v.category).sum ≤ 8)
    (ks : List Nat) (hn : ks.Nodup) (hk : ks.map (fun k => sg[k]?) = cs.map some) (hlen : cs'.length = cs.length) (hput : sgPut sg ks cs' = sg') (hrv : rv.toList ++ st = st') (K : Go G a b (pc + 3) lv st' sg') : Go G a b pc lv stk sg := by
  refine g_callSN F As hM hd hT hw hsi.1 hsi.2 hnest hd0 hR2 hst hsum ks hn hk (fun z e => ?_)
  subst e
  refine ⟨hlen, ?_⟩
  rw [hput, hrv]
  exact K
theorem g_img (F : Fx G cc Ts own cy nM rm) {hh u v : Nat} {x : Int32} {α : Type} {Y Z : Option α} {o : α} (h : (if x = 0 then Y else if x = 1 then Z else none) = some o) (i : Nat) (hd : decode cc pc = .ok (.aaload, 1)) (he : cellAt sg i 0 = some (hh, .inl (cy 3, 2, .inr (.inr (.inr (.inr (fun k => if k = 0 then some u else some v))))))) (K0 : Y = some o → Go G a b (pc + 1) lv (.ref u :: st) sg) (K1 : Z = some o → Go G a b (pc + 1) lv (.ref v :: st) sg) : Go G a b pc lv (.int x :: .ref hh :: st) sg := by
  obtain ⟨p, l, e, R, s, m, args, below, meth, c, nL, D, A, Q⟩ := G
  obtain ⟨hx, hb, hml, hown, hts, hK, hN, hlk, hA, hR, hnL⟩ := F
  intro H locs ls hP hD hS hl
  obtain ⟨q, hq, -⟩ := cellAt_flat sg i 0 _ he
  by_cases c0 : x = 0
  · rw [if_pos c0] at h
    subst c0
    exact va_aldq hx hb hK hP q 3 hq rfl (show vp_in _ _ by unfold vp_in; decide) hd (K0 h H locs ls hP hD hS hl)
  · rw [if_neg c0] at h
    by_cases c1 : x = 1
    · rw [if_pos c1] at h
      subst c1
      exact va_aldq hx hb hK hP q 3 hq rfl (show vp_in _ _ by unfold vp_in; decide) hd (K1 h H locs ls hP hD hS hl)
    · rw [if_neg c1] at h
      cases h
end GO
theorem va_RA_i (U : State) (c1 c2 : ClassId) (h1 : va_RA U c1 .int) (h2 : va_RA U c2 .int) : c1 = c2 := Option.some.inj (h1.symm.trans h2)
theorem va_RA_l (U : State) (c1 c2 : ClassId) (h1 : va_RA U c1 .long) (h2 : va_RA U c2 .long) : c1 = c2 := Option.some.inj (h1.symm.trans h2)
theorem va_RA_z (U : State) (c1 c2 : ClassId) (h1 : va_RA U c1 .boolean) (h2 : va_RA U c2 .boolean) : c1 = c2 := Option.some.inj (h1.symm.trans h2)
theorem bnd {α β : Type} {x : Option α} {f : α → Option β} {o : β} (h : x.bind f = some o) : ∃ r, x = some r ∧ f r = some o := by
  cases x with
  | none => cases h
  | some r => exact ⟨r, rfl, h⟩
theorem grd {c : Prop} [Decidable c] {β : Type} {Y : Option β} {o : β} (h : (if c then Y else none) = some o) : c ∧ Y = some o := by
  by_cases hc : c
  · rw [if_pos hc] at h; exact ⟨hc, h⟩
  · rw [if_neg hc] at h; cases h
abbrev isZ (r : Int32) : Prop := r = 0 ∨ r = 1
theorem isZ_n {r : Int32} (h : isZ r) : narrow .boolean (.int r) = .int r := by rcases h with h | h <;> subst h <;> rfl
theorem isZ_f {r : Int32} (h : isZ r) : fits .boolean (.int r) = true := by rcases h with h | h <;> subst h <;> rfl
theorem sw_out {x : Int32} {n : Nat} (hn : n < 1000) (h : ∀ k, k ≤ n → ¬ x = Int32.ofNat k) : x.toInt < 0 ∨ (n : Int) < x.toInt := by
  rcases Int.lt_or_le x.toInt 0 with h1 | h1
  · exact Or.inl h1
  · rcases Int.lt_or_le (n : Int) x.toInt with h2 | h2
    · exact Or.inr h2
    · exfalso
      refine h x.toInt.toNat (by omega) ?_
      have e1 : (nI x.toInt.toNat).toInt = (x.toInt.toNat : Int) := nI_toInt (by omega)
      have e2 : x.toInt = (nI x.toInt.toNat).toInt := by rw [e1]; omega
      exact Int32.toInt_inj.mp e2
