/-! THE PURE PICTURE. What was told (ta), worlds (wd), joins; what is reckoned from them. -/
/-- scans; shifts; of each scan watcher, moment, number of dots; of each dot x, y, mark; kinds; rules -/
abbrev ta : Type := Nat × (Nat → Int32) × (Nat → Int32) × (Nat → Nat) × (Nat → Nat) × (Nat → Nat) × (Nat → Nat → Int32) × (Nat → Nat → Int32) × (Nat → Nat → Nat) × (Nat → Nat) × (Nat → Nat)
def ta_n (τ : ta) : Nat := τ.1
def ta_sa (τ : ta) : Nat → Int32 := τ.2.1
def ta_sb (τ : ta) : Nat → Int32 := τ.2.2.1
def ta_wt (τ : ta) : Nat → Nat := τ.2.2.2.1
def ta_mo (τ : ta) : Nat → Nat := τ.2.2.2.2.1
def ta_dn (τ : ta) : Nat → Nat := τ.2.2.2.2.2.1
def ta_dx (τ : ta) : Nat → Nat → Int32 := τ.2.2.2.2.2.2.1
def ta_dy (τ : ta) : Nat → Nat → Int32 := τ.2.2.2.2.2.2.2.1
def ta_dm (τ : ta) : Nat → Nat → Nat := τ.2.2.2.2.2.2.2.2.1
def ta_kd (τ : ta) : Nat → Nat := τ.2.2.2.2.2.2.2.2.2.1
def ta_ru (τ : ta) : Nat → Nat := τ.2.2.2.2.2.2.2.2.2.2
def ta_in (x : Int32) (b : Int) : Prop := -b ≤ x.toInt ∧ x.toInt ≤ b
def ta_ok (τ : ta) : Prop :=
  ta_n τ ≤ 12 ∧ (∀ w, w < 3 → ta_in (ta_sa τ w) 50 ∧ ta_in (ta_sb τ w) 50) ∧
  (∀ s, s < ta_n τ → ta_wt τ s < 3 ∧ ta_mo τ s ≤ 999 ∧ ta_dn τ s ≤ 4 ∧ ∀ d, d < ta_dn τ s → ta_in (ta_dx τ s d) 1000 ∧ ta_in (ta_dy τ s d) 1000 ∧ ta_dm τ s d ≤ 9) ∧
  (∀ k, k < 10 → ta_kd τ k ≤ 2) ∧ ta_ru τ 0 ≤ 500 ∧ ta_ru τ 1 ≤ 100000 ∧ ta_ru τ 2 ≤ 100000 ∧ ta_ru τ 3 ≤ 100000 ∧ (1 ≤ ta_ru τ 4 ∧ ta_ru τ 4 ≤ 9) ∧ (1 ≤ ta_ru τ 5 ∧ ta_ru τ 5 ≤ 4)
/-- a dot put right -/
def ta_rx (τ : ta) (s d : Nat) : Int32 := ta_dx τ s d + ta_sa τ (ta_wt τ s)
def ta_ry (τ : ta) (s d : Nat) : Int32 := ta_dy τ s d + ta_sb τ (ta_wt τ s)
/-- the order of scans: the s-th goes in at a place not behind p -/
def od_in (mo : Nat → Nat) (s : Nat) : Nat → (Nat → Nat) → Nat → Nat
  | 0, o => fun i => if i = 0 then s else o i
  | p + 1, o => if mo s < mo (o p) then od_in mo s p (fun i => if i = p + 1 then o p else o i) else fun i => if i = p + 1 then s else o i
def od_k (mo : Nat → Nat) : Nat → Nat → Nat
  | 0 => fun _ => 0
  | k + 1 => od_in mo k k (od_k mo k)
def od (τ : ta) : Nat → Nat := od_k (ta_mo τ) (ta_n τ)
/-- a world: what it costs, how many tracks, their fields (x, y, u, v, latest, hits, missed, mark, ended), accounts of dots -/
abbrev wd : Type := Nat × Nat × (Nat → Nat → Int32) × (Nat → Nat → Int32)
def wd_c (w : wd) : Nat := w.1
def wd_n (w : wd) : Nat := w.2.1
def wd_t (w : wd) : Nat → Nat → Int32 := w.2.2.1
def wd_a (w : wd) : Nat → Nat → Int32 := w.2.2.2
/-- how many times its pace a track goes on, and where it is foretold to be -/
def tk_ah (kd : Nat) (d : Int) : Int := if kd = 1 then 0 else if kd = 2 then -d else d
def tk_f (τ : ta) (t : Nat → Int32) (m : Int) (c : Nat) : Int := (t c).toInt + tk_ah (ta_kd τ (t 7).toNatClampNeg) (m - (t 4).toInt) * (t (c + 2)).toInt
/-- what joining dot d of scan s to the track costs -/
def tk_sq (τ : ta) (t : Nat → Int32) (s d : Nat) : Nat := (((ta_rx τ s d).toInt - tk_f τ t (ta_mo τ s) 0) * ((ta_rx τ s d).toInt - tk_f τ t (ta_mo τ s) 0) + ((ta_ry τ s d).toInt - tk_f τ t (ta_mo τ s) 1) * ((ta_ry τ s d).toInt - tk_f τ t (ta_mo τ s) 1)).toNat
def tk_toll (τ : ta) (t : Nat → Int32) (s d : Nat) : Option Nat :=
  if t 8 = 0 ∧ (t 7 = 0 ∨ ta_dm τ s d = 0 ∨ t 7 = nI (ta_dm τ s d)) ∧ tk_sq τ t s d ≤ ta_ru τ 0 * ta_ru τ 0 then some (tk_sq τ t s d) else none
/-- all joins behind a beginning, in their order: cost, picks (a track, 6 begun, 7 false) -/
def jn_sub (T : Nat → Nat → Option Nat) (nT miss birth fals : Nat) : Nat → Nat → Nat → Nat → Nat → (Nat → Bool) → List Nat → List (Nat × List Nat)
  | 0, _, c, u, _, _, pre => [(c + u * miss, pre)]
  | r + 1, e, c, u, b, tak, pre =>
    ((List.range nT).flatMap fun k => match T k e with
      | none => []
      | some t => bif tak k then [] else jn_sub T nT miss birth fals r (e + 1) (c + t) (u - 1) b (fun j => bif Nat.beq j k then true else tak j) (pre ++ [k])) ++
    ((if nT + b < 6 then jn_sub T nT miss birth fals r (e + 1) (c + birth) u (b + 1) tak (pre ++ [6]) else []) ++
    jn_sub T nT miss birth fals r (e + 1) (c + fals) u b tak (pre ++ [7]))
/-- how many tracks of a world are looked for -/
def wd_lk (t : Nat → Nat → Int32) : Nat → Nat
  | 0 => 0
  | k + 1 => wd_lk t k + (if t k 8 = 0 then 1 else 0)
def jn_all (τ : ta) (s : Nat) (w : wd) : List (Nat × List Nat) := jn_sub (fun k e => tk_toll τ (wd_t w k) s e) (wd_n w) (ta_ru τ 1) (ta_ru τ 2) (ta_ru τ 3) (ta_dn τ s) 0 (wd_c w) (wd_lk (wd_t w) (wd_n w)) 0 (fun _ => false) []
/-- the K cheapest so far: cost, place of the world among those kept, picks -/
abbrev jn : Type := Nat × Nat × List Nat
def jn_put (x : jn) : List jn → List jn
  | [] => [x]
  | y :: l => if y.1 ≤ x.1 then y :: jn_put x l else x :: y :: l
def jn_off (K : Nat) (l : List jn) (x : jn) : List jn := (jn_put x l).take K
def wd_0 : wd := (0, 0, fun _ _ => 0, fun _ _ => 0)
def jn_of (τ : ta) (s : Nat) (ws : List wd) : List jn := (List.range ws.length).flatMap fun i => (jn_all τ s (am_nth ws i wd_0)).map fun c => (c.1, i, c.2)
def jn_best (τ : ta) (s : Nat) (ws : List wd) : List jn := (jn_of τ s ws).foldl (jn_off (ta_ru τ 5)) []
/-- a track that gets a dot, that gets none, that begins -/
def tk_hit (τ : ta) (t : Nat → Int32) (s d : Nat) : Nat → Int32 := fun j => match j with
  | 0 => ta_rx τ s d
  | 1 => ta_ry τ s d
  | 2 => if 0 < nI (ta_mo τ s) - t 4 then lb_fd (ta_rx τ s d - t 0) (nI (ta_mo τ s) - t 4) else t 2
  | 3 => if 0 < nI (ta_mo τ s) - t 4 then lb_fd (ta_ry τ s d - t 1) (nI (ta_mo τ s) - t 4) else t 3
  | 4 => nI (ta_mo τ s)
  | 5 => t 5 + 1
  | 6 => 0
  | 7 => if t 7 = 0 then nI (ta_dm τ s d) else t 7
  | j + 8 => t (j + 8)
def tk_miss (τ : ta) (t : Nat → Int32) : Nat → Int32 := if t 8 = 0 then fun j => match j with
    | 6 => t 6 + 1
    | 8 => if nI (ta_ru τ 4) ≤ t 6 + 1 then 1 else 0
    | j => t j
  else t
def tk_new (τ : ta) (s d : Nat) : Nat → Int32 := fun j => match j with
  | 0 => ta_rx τ s d
  | 1 => ta_ry τ s d
  | 4 => nI (ta_mo τ s)
  | 5 => 1
  | 7 => nI (ta_dm τ s d)
  | _ => 0
/-- the first dot that a track was picked for; how many begun ones are ahead of a dot; the dot of a begun one -/
def jp_f (ps : List Nat) (k : Nat) : Nat → Nat → Option Nat
  | 0, _ => none
  | r + 1, e => if am_nth ps e 9 = k then some e else jp_f ps k r (e + 1)
def jp_at (ps : List Nat) (k : Nat) : Option Nat := jp_f ps k ps.length 0
def jp_nb (ps : List Nat) : Nat → Nat
  | 0 => 0
  | e + 1 => jp_nb ps e + (if am_nth ps e 9 = 6 then 1 else 0)
def jp_g (ps : List Nat) (j : Nat) : Nat → Nat → Nat
  | 0, _ => 0
  | r + 1, e => if am_nth ps e 9 = 6 ∧ jp_nb ps e = j then e else jp_g ps j r (e + 1)
def jp_dot (ps : List Nat) (j : Nat) : Nat := jp_g ps j ps.length 0
def jp_ac (n : Nat) (ps : List Nat) (e : Nat) : Int32 := if am_nth ps e 9 = 7 then -1 else if am_nth ps e 9 = 6 then nI (n + jp_nb ps e) else nI (am_nth ps e 9)
/-- a join carried out -/
def wd_ap (τ : ta) (s : Nat) (w : wd) (c : Nat) (ps : List Nat) : wd :=
  (c, wd_n w + jp_nb ps ps.length,
    (fun k => if k < wd_n w then (match jp_at ps k with
        | some d => tk_hit τ (wd_t w k) s d
        | none => tk_miss τ (wd_t w k)) else tk_new τ s (jp_dot ps (k - wd_n w))),
    fun s' d => if s' = s then jp_ac (wd_n w) ps d else wd_a w s' d)
def wd_step (τ : ta) (s : Nat) (ws : List wd) : List wd := (jn_best τ s ws).map fun x => wd_ap τ s (am_nth ws x.2.1 wd_0) x.1 x.2.2
/-- the worlds kept behind the first i scans in order -/
def wd_k (τ : ta) : Nat → List wd
  | 0 => [wd_0]
  | i + 1 => wd_step τ (od τ i) (wd_k τ i)
def wds (τ : ta) : List wd := wd_k τ (ta_n τ)
