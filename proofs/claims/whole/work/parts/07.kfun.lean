/-! what each method computes, by program out of its bytecode -/
abbrev rm32 (x y : Int32) : Int32 := x - x / y * y
abbrev rm64 (x y : Int64) : Int64 := x - x / y * y
def K_JMath_floorMod (a0 : Int32) (b0 : Int32) : Option (Int32) :=
  dz b0 <| nm ((rm32 a0 b0)) <| fun v3 => if 0 ≤ (a0 ^^^ b0) then ( some v3) else ( if v3 = 0 then ( some v3) else ( some (v3 + b0)))
def K_JString_isLatin1 (i0 : Nat) : Option (Int32) :=
     some 1
def K_JString_coder (i0 : Nat) : Option (Int32) :=
    some 0
def K_JString_length (i0 : Nat) : Option (Int32) :=
  bd (K_JString_coder i0) <| fun v6 => some ((nI (strL.getD i0 0)) >>> (v6 &&& 31))
def K_JStringLatin1_canEncode (a0 : Int32) : Option (Int32) :=
   if a0 < 0 then ( some 0) else ( if 255 < a0 then ( some 0) else ( some 1))
def K_JStringLatin1_indexOfChar_L7 (N : Nat) (a0 : Nat) (x3 : Int32) (x4 : Int32) (x5 : Int32) : Option ((Int32) ⊕ (Int32) ⊕ (Unit)) :=
   if x3 ≤ x5 then ( some (.inr (.inr ()))) else (gA (strL.getD a0 0) (fun j => (strB.getD a0 []).getD j 0) x5 <| fun v16 => if v16 = x4 then ( some (.inr (.inl x5))) else (nm (x5 + 1) <| fun v25 => some (.inl v25)))
def K_JStringLatin1_indexOfChar (N : Nat) (a0 : Nat) (b0 : Int32) (c0 : Int32) (d0 : Int32) : Option (Int32) :=
  nm ((Int32.toInt8 b0).toInt32) <| fun v2 => bd (loopN (fun z_ : Int32 => K_JStringLatin1_indexOfChar_L7 N a0 d0 v2 z_) N c0) <| fun t7 => el t7 (fun r_ => some r_) (fun t7x =>  some (-1))
def K_JStringLatin1_indexOf (N : Nat) (a0 : Nat) (b0 : Int32) (c0 : Int32) (d0 : Int32) : Option (Int32) :=
  bd (K_JStringLatin1_canEncode b0) <| fun v1 => if v1 = 0 then ( some (-1)) else (nm ((if c0 < 0 then 0 else c0)) <| fun v14 => nm ((if (nI (strL.getD a0 0)) < d0 then (nI (strL.getD a0 0)) else d0)) <| fun v21 => if v14 < v21 then (bd (K_JStringLatin1_indexOfChar N a0 b0 v14 v21) <| fun v33 => some v33) else ( some (-1)))
def K_JString_indexOf1 (N : Nat) (i0 : Nat) (a0 : Int32) (b0 : Int32) : Option (Int32) :=
   bd (K_JString_length i0) <| fun v14 => bd (K_JStringLatin1_indexOf N i0 a0 b0 v14) <| fun v17 => some v17
def K_JString_indexOf0 (N : Nat) (i0 : Nat) (a0 : Int32) : Option (Int32) :=
  bd (K_JString_indexOf1 N i0 a0 0) <| fun v3 => some v3
def K_M_in (a0 : Int64) (b0 : Int64) (c0 : Int64) : Option (Int32) :=
   if (lg_cmp a0 b0) < 0 then ( some 0) else ( if 0 < (lg_cmp a0 c0) then ( some 0) else ( some 1))
def K_M_one (a0 : Int32) : Option (Int32) :=
   if a0 = 0 then ( some 0) else ( some 1)
def K_M_has (a0 : Int32) (b0 : Int32) : Option (Int32) :=
   if ((a0 >>> (b0 &&& 31)) &&& 1) = 1 then ( some 1) else ( some 0)
def K_M_tellNothing_J58 (N : Nat) (x1 : Int32) (x2 : Int32) (y1 : Int32) (y2 : Int32) (h : Hp) : Option ((Int32 × Hp) ⊕ (Hp)) :=
  sA 24 y1 <| nm (hset h 104 (Int32.toNatClampNeg y1) y2) <| fun h58 => nm (x2 + 1) <| fun v59 => some (.inl (v59, h58))
def K_M_tellNothing_L2 (N : Nat) (x1 : Int32) (x2 : Int32) (h : Hp) : Option ((Int32 × Hp) ⊕ (Hp)) :=
   if 12 ≤ x2 then ( some (.inr h)) else ( if 2 ≤ x2 then ( if 6 ≤ x2 then ( if 8 ≤ x2 then ( if 11 ≤ x2 then ( K_M_tellNothing_J58 N x1 x2 ((12 * x1) + x2) 0 h) else ( K_M_tellNothing_J58 N x1 x2 ((12 * x1) + x2) (-1) h)) else ( K_M_tellNothing_J58 N x1 x2 ((12 * x1) + x2) 0 h)) else ( K_M_tellNothing_J58 N x1 x2 ((12 * x1) + x2) 2 h)) else ( K_M_tellNothing_J58 N x1 x2 ((12 * x1) + x2) 0 h))
def K_M_tellNothing_L67 (N : Nat) (x1 : Int32) (x2 : Int32) (h : Hp) : Option ((Int32 × Hp) ⊕ (Hp)) :=
   if 8 ≤ x2 then ( some (.inr h)) else (sA 16 ((8 * x1) + x2) <| nm (hset h 105 (Int32.toNatClampNeg ((8 * x1) + x2)) (rm32 x2 4)) <| fun h86 => nm (x2 + 1) <| fun v87 => some (.inl (v87, h86)))
def K_M_tellNothing (N : Nat) (a0 : Int32) (h : Hp) : Option (Hp) :=
  bd (loopN (fun z_ : Int32 × Hp => K_M_tellNothing_L2 N a0 z_.1 z_.2) N (0, h)) <| fun t2 => bd (loopN (fun z_ : Int32 × Hp => K_M_tellNothing_L67 N a0 z_.1 z_.2) N (0, t2)) <| fun t67 =>  some t67
def K_M_feed (a0 : Int32) (h : Hp) : Option (Int32 × Hp) :=
  bd (K_M_in (Int32.toInt64 a0) 0 255) <| fun v6 => if v6 = 0 then ( some ((-1000000002), h)) else ( if (h 100 7) = 250 then ( some ((-1000000004), h)) else (sA 250 (h 100 7) <| nm (hset h 106 (Int32.toNatClampNeg (h 100 7)) a0) <| fun h37 => nm (hset h37 100 7 ((h37 100 7) + 1)) <| fun h45 => some ((h45 100 7), h45)))
def K_M_here_L0 (N : Nat) (h : Hp) : Option ((Hp) ⊕ (Hp)) :=
   if (h 100 7) ≤ (h 100 8) then ( some (.inr h)) else (gA 250 (h 106) (h 100 8) <| fun v19 => if v19 = 32 then (nm (hset h 100 8 ((h 100 8) + 1)) <| fun h32 => some (.inl h32)) else ( some (.inr h)))
def K_M_here_J38 (N : Nat) (h : Hp) : Option (Int32 × Hp) :=
   if (h 100 7) ≤ (h 100 8) then ( some ((-1), h)) else (gA 250 (h 106) (h 100 8) <| fun v57 => some (v57, h))
def K_M_here (N : Nat) (h : Hp) : Option (Int32 × Hp) :=
  bd (loopN (fun z_ : Hp => K_M_here_L0 N z_) N h) <| fun t0 =>  K_M_here_J38 N t0
def K_M_want_J21 (h : Hp) : Option (Int32 × Hp) :=
   if (h 100 10) = 0 then ( some (1, h)) else ( some (0, h))
def K_M_want (a0 : Int32) (b0 : Int32) (c0 : Int32) (h : Hp) : Option (Int32 × Hp) :=
   if a0 = 0 then ( if (h 100 10) = 0 then (nm (hset h 100 10 b0) <| fun h13 => nm (hset h13 100 11 c0) <| fun h18 => K_M_want_J21 h18) else ( K_M_want_J21 h)) else ( K_M_want_J21 h)
def K_M_takeNumber_J113 (N : Nat) (x1 : Int32) (x2 : Int32) (y0 : Int32) (h : Hp) : Option ((Int32 × Hp) ⊕ (Int32 × Hp)) :=
  nm (hset h 100 8 ((h 100 8) + 1)) <| fun h122 => some (.inl (y0, h122))
def K_M_takeNumber_L50 (N : Nat) (x1 : Int32) (x2 : Int32) (x4 : Int32) (h : Hp) : Option ((Int32 × Hp) ⊕ (Int32 × Hp)) :=
   if (h 100 7) ≤ (h 100 8) then ( some (.inr (x4, h))) else (gA 250 (h 106) (h 100 8) <| fun v69 => bd (K_M_in (Int32.toInt64 v69) 48 57) <| fun v77 => if v77 = 0 then ( some (.inr (x4, h))) else ( if x4 ≤ 99999 then (gA 250 (h 106) (h 100 8) <| fun v108 => K_M_takeNumber_J113 N x1 x2 (((10 * x4) + v108) - 48) h) else ( K_M_takeNumber_J113 N x1 x2 x4 h)))
def K_M_takeNumber_J160 (N : Nat) (x4 : Int32) (y1 : Int32) (h : Hp) : Option (Int32 × Hp) :=
  bd2 (K_M_want y1 2 (h 100 9) h) <| fun v165 h165 => some (x4, h165)
def K_M_takeNumber_J159 (N : Nat) (x4 : Int32) (h : Hp) : Option (Int32 × Hp) :=
   K_M_takeNumber_J160 N x4 0 h
def K_M_takeNumber_J128 (N : Nat) (x1 : Int32) (x2 : Int32) (x4 : Int32) (h : Hp) : Option (Int32 × Hp) :=
   if 4 ≤ ((h 100 8) - (h 100 9)) then ( K_M_takeNumber_J159 N x4 h) else (bd (K_M_in (Int32.toInt64 x4) (Int32.toInt64 x1) (Int32.toInt64 x2)) <| fun v149 => if v149 = 0 then ( K_M_takeNumber_J159 N x4 h) else ( K_M_takeNumber_J160 N x4 1 h))
def K_M_takeNumber (N : Nat) (a0 : Int32) (b0 : Int32) (h : Hp) : Option (Int32 × Hp) :=
   if (h 100 10) ≤ 0 then (bd2 (K_M_here N h) <| fun v10 h10 => nm (hset h10 100 9 (h10 100 8)) <| fun h19 => bd (K_M_in (Int32.toInt64 v10) 48 57) <| fun v31 => bd2 (K_M_want v31 1 (h19 100 8) h19) <| fun v39 h39 => if v39 = 0 then ( some (0, h39)) else (bd (loopN (fun z_ : Int32 × Hp => K_M_takeNumber_L50 N a0 b0 z_.1 z_.2) N (0, h39)) <| fun t50 =>  K_M_takeNumber_J128 N a0 b0 t50.1 t50.2)) else ( some (0, h))
def K_M_squareOf (a0 : Int32) : Option (Int32) :=
   if a0 = 46 then ( some 0) else ( if a0 = 35 then ( some 1) else ( if a0 = 111 then ( some 2) else ( if a0 = 110 then ( some 3) else ( if a0 = 101 then ( some 4) else ( if a0 = 115 then ( some 5) else ( if a0 = 119 then ( some 6) else ( some (-1))))))))
def K_M_strokeOf (a0 : Int32) : Option (Int32) :=
   if a0 = 108 then ( some 0) else ( if a0 = 114 then ( some 1) else ( if a0 = 98 then ( some 2) else ( if a0 = 104 then ( some 3) else ( some (-1)))))
def K_M_takeRiver_J97 (N : Nat) (x1 : Int32) (x2 : Int32) (x5 : Int32) (y0 : Int32) (h : Hp) : Option ((Int32 × Int32 × Int32 × Hp) ⊕ (Int32 × Int32 × Hp)) :=
  nm ((h 100 8)) <| fun v102 => nm (hset h 100 8 ((h 100 8) + 1)) <| fun h111 => nm (x5 + 1) <| fun v114 => some (.inl (y0, v102, v114, h111))
def K_M_takeRiver_J92 (N : Nat) (x1 : Int32) (x2 : Int32) (x5 : Int32) (h : Hp) : Option ((Int32 × Int32 × Int32 × Hp) ⊕ (Int32 × Int32 × Hp)) :=
   K_M_takeRiver_J97 N x1 x2 x5 1 h
def K_M_takeRiver_J59 (N : Nat) (x1 : Int32) (x2 : Int32) (x3 : Int32) (x4 : Int32) (x5 : Int32) (x6 : Int32) (y1 : Int32) (h : Hp) : Option ((Int32 × Int32 × Int32 × Hp) ⊕ (Int32 × Int32 × Hp)) :=
  bd2 (K_M_want y1 1 (h 100 8) h) <| fun v64 h64 => if v64 = 0 then (nm (x5 + 1) <| fun v114 => some (.inl (x3, x4, v114, h64))) else (sA 96 (48 + x5) <| nm (hset h64 103 (Int32.toNatClampNeg (48 + x5)) x6) <| fun h81 => if x3 = 0 then ( if x6 = 1 then ( K_M_takeRiver_J97 N x1 x2 x5 0 h81) else ( K_M_takeRiver_J92 N x1 x2 x5 h81)) else ( K_M_takeRiver_J92 N x1 x2 x5 h81))
def K_M_takeRiver_L24 (N : Nat) (x1 : Int32) (x2 : Int32) (x3 : Int32) (x4 : Int32) (x5 : Int32) (h : Hp) : Option ((Int32 × Int32 × Int32 × Hp) ⊕ (Int32 × Int32 × Hp)) :=
   if (x1 * x2) ≤ x5 then ( some (.inr (x3, x4, h))) else ( if (h 100 10) = 0 then (bd2 (K_M_here N h) <| fun v40 h40 => bd (K_M_squareOf v40) <| fun v43 => if v43 < 0 then ( K_M_takeRiver_J59 N x1 x2 x3 x4 x5 v43 0 h40) else ( K_M_takeRiver_J59 N x1 x2 x3 x4 x5 v43 1 h40)) else ( some (.inr (x3, x4, h))))
def K_M_takeRiver_J120 (N : Nat) (x1 : Int32) (x2 : Int32) (x3 : Int32) (x4 : Int32) (h : Hp) : Option (Hp) :=
  bd2 (K_M_want x3 4 x4 h) <| fun v125 h125 => sA 24 12 <| nm (hset h125 104 (Int32.toNatClampNeg 12) x1) <| fun h137 => sA 24 13 <| nm (hset h137 104 (Int32.toNatClampNeg 13) x2) <| fun h145 => some h145
def K_M_takeRiver (N : Nat) (h : Hp) : Option (Hp) :=
  bd2 (K_M_takeNumber N 1 8 h) <| fun v4 h4 => bd2 (K_M_takeNumber N 1 6 h4) <| fun v12 h12 => bd (loopN (fun z_ : Int32 × Int32 × Int32 × Hp => K_M_takeRiver_L24 N v4 v12 z_.1 z_.2.1 z_.2.2.1 z_.2.2.2) N (0, 0, 0, h12)) <| fun t24 =>  K_M_takeRiver_J120 N v4 v12 t24.1 t24.2.1 t24.2.2
def K_M_takeSquare_J68 (N : Nat) (x3 : Int32) (y1 : Int32) (h : Hp) : Option (Int32 × Hp) :=
  bd2 (K_M_want y1 4 (h 100 9) h) <| fun v73 h73 => if v73 = 0 then ( some (0, h73)) else ( some (x3, h73))
def K_M_takeSquare (N : Nat) (h : Hp) : Option (Int32 × Hp) :=
  gA 24 (h 104) 12 <| fun v8 => bd2 (K_M_takeNumber N 0 (v8 - 1) h) <| fun v11 h11 => gA 24 (h11 104) 13 <| fun v23 => bd2 (K_M_takeNumber N 0 (v23 - 1) h11) <| fun v26 h26 => gA 24 (h26 104) 12 <| fun v37 => nm (((v26 * v37) + v11)) <| fun v41 => if (h26 100 10) = 0 then (gA 96 (h26 103) (48 + v41) <| fun v58 => if v58 = 1 then ( K_M_takeSquare_J68 N v41 0 h26) else ( K_M_takeSquare_J68 N v41 1 h26)) else ( some (0, h26))
def K_M_takeHabits_J33 (N : Nat) (x1 : Int32) (x2 : Int32) (y1 : Int32) (h : Hp) : Option ((Int32 × Hp) ⊕ (Hp)) :=
  bd2 (K_M_want y1 1 (h 100 8) h) <| fun v38 h38 => if v38 = 0 then (nm (x1 + 1) <| fun v64 => some (.inl (v64, h38))) else (sA 16 (8 + x1) <| nm (hset h38 105 (Int32.toNatClampNeg (8 + x1)) x2) <| fun h53 => nm (hset h53 100 8 ((h53 100 8) + 1)) <| fun h61 => nm (x1 + 1) <| fun v64 => some (.inl (v64, h61)))
def K_M_takeHabits_L2 (N : Nat) (x1 : Int32) (h : Hp) : Option ((Int32 × Hp) ⊕ (Hp)) :=
   if 8 ≤ x1 then ( some (.inr h)) else ( if (h 100 10) = 0 then (bd2 (K_M_here N h) <| fun v16 h16 => bd (K_M_strokeOf v16) <| fun v19 => if v19 < 0 then ( K_M_takeHabits_J33 N x1 v19 0 h16) else ( K_M_takeHabits_J33 N x1 v19 1 h16)) else ( some (.inr h)))
def K_M_takeHabits (N : Nat) (h : Hp) : Option (Hp) :=
  bd (loopN (fun z_ : Int32 × Hp => K_M_takeHabits_L2 N z_.1 z_.2) N (0, h)) <| fun t2 =>  some t2
def K_M_wordOf (a0 : Int32) : Option (Int32) :=
   if a0 = 114 then ( some 0) else ( if a0 = 112 then ( some 1) else ( if a0 = 98 then ( some 2) else ( if a0 = 103 then ( some 3) else ( if a0 = 119 then ( some 4) else ( if a0 = 104 then ( some 5) else ( some (-1)))))))
def K_M_takeClause_J69 (N : Nat) (x1 : Int32) (x2 : Int32) (y1 : Int32) (h : Hp) : Option (Hp) :=
  bd2 (K_M_want y1 3 x2 h) <| fun v71 h71 => if v71 = 0 then ( some h71) else (nm (hset h71 100 5 ((h71 100 5) ||| (1 <<< (x1 &&& 31)))) <| fun h87 => if x1 = 0 then (bd (K_M_takeRiver N h87) <| fun h95 => some h95) else ( if x1 = 1 then (bd2 (K_M_takeNumber N 1 9 h87) <| fun v116 h116 => sA 24 14 <| nm (hset h116 104 (Int32.toNatClampNeg 14) v116) <| fun h119 => bd2 (K_M_takeNumber N 1 9 h119) <| fun v130 h130 => sA 24 15 <| nm (hset h130 104 (Int32.toNatClampNeg 15) v130) <| fun h133 => bd2 (K_M_takeNumber N 1 20 h133) <| fun v144 h144 => sA 24 16 <| nm (hset h144 104 (Int32.toNatClampNeg 16) v144) <| fun h147 => bd2 (K_M_takeNumber N 1 20 h147) <| fun v158 h158 => sA 24 17 <| nm (hset h158 104 (Int32.toNatClampNeg 17) v158) <| fun h161 => some h161) else ( if x1 = 2 then (bd2 (K_M_takeSquare N h87) <| fun v177 h177 => sA 24 18 <| nm (hset h177 104 (Int32.toNatClampNeg 18) v177) <| fun h180 => bd2 (K_M_takeNumber N 0 7 h180) <| fun v191 h191 => sA 24 19 <| nm (hset h191 104 (Int32.toNatClampNeg 19) v191) <| fun h194 => some h194) else ( if x1 = 3 then (bd2 (K_M_takeSquare N h87) <| fun v210 h210 => sA 24 20 <| nm (hset h210 104 (Int32.toNatClampNeg 20) v210) <| fun h213 => bd2 (K_M_takeNumber N 0 8 h213) <| fun v224 h224 => sA 24 21 <| nm (hset h224 104 (Int32.toNatClampNeg 21) v224) <| fun h227 => some h227) else ( if x1 = 4 then (bd2 (K_M_takeNumber N 0 3 h87) <| fun v245 h245 => sA 24 22 <| nm (hset h245 104 (Int32.toNatClampNeg 22) v245) <| fun h248 => bd2 (K_M_takeNumber N 1 9 h248) <| fun v259 h259 => sA 24 23 <| nm (hset h259 104 (Int32.toNatClampNeg 23) v259) <| fun h262 => some h262) else (bd (K_M_takeHabits N h87) <| fun h267 => some h267))))))
def K_M_takeClause_J44 (N : Nat) (x1 : Int32) (x2 : Int32) (y1 : Int32) (h : Hp) : Option (Hp) :=
  bd2 (K_M_want y1 1 x2 h) <| fun v46 h46 => if v46 = 0 then ( some h46) else (bd (K_M_has (h46 100 5) x1) <| fun v58 => if v58 = 0 then ( K_M_takeClause_J69 N x1 x2 1 h46) else ( K_M_takeClause_J69 N x1 x2 0 h46))
def K_M_takeClause_J39 (N : Nat) (x1 : Int32) (x2 : Int32) (h : Hp) : Option (Hp) :=
   K_M_takeClause_J44 N x1 x2 1 h
def K_M_takeClause_J43 (N : Nat) (x1 : Int32) (x2 : Int32) (h : Hp) : Option (Hp) :=
   K_M_takeClause_J44 N x1 x2 0 h
def K_M_takeClause (N : Nat) (h : Hp) : Option (Hp) :=
  bd2 (K_M_here N h) <| fun v1 h1 => bd (K_M_wordOf v1) <| fun v4 => nm ((h1 100 8)) <| fun v12 => nm (hset h1 100 8 ((h1 100 8) + 1)) <| fun h20 => if v4 = 0 then ( K_M_takeClause_J39 N v4 v12 h20) else ( if v4 ≤ 0 then ( K_M_takeClause_J43 N v4 v12 h20) else ( if (h20 100 5) ≤ 0 then ( K_M_takeClause_J43 N v4 v12 h20) else ( K_M_takeClause_J39 N v4 v12 h20)))
def K_M_squares (a0 : Int32) (h : Hp) : Option (Int32) :=
  gA 24 (h 104) a0 <| fun v5 => gA 24 (h 104) (a0 + 1) <| fun v13 => some (v5 * v13)
def K_M_river_J65 (N : Nat) (y1 : Int32) (h : Hp) : Option ((Hp) ⊕ (Hp)) :=
  bd2 (K_M_want y1 1 (h 100 8) h) <| fun v70 h70 => if v70 = 0 then ( some (.inl h70)) else (nm (hset h70 100 8 ((h70 100 8) + 1)) <| fun h83 => some (.inl h83))
def K_M_river_L25 (N : Nat) (h : Hp) : Option ((Hp) ⊕ (Hp)) :=
   if (h 100 10) = 0 then (bd2 (K_M_here N h) <| fun v33 h33 => if v33 < 0 then ( some (.inr h33)) else (bd (K_M_takeClause N h33) <| fun h40 => if (h40 100 10) = 0 then (bd2 (K_M_here N h40) <| fun v52 h52 => if v52 = 59 then ( K_M_river_J65 N 1 h52) else ( K_M_river_J65 N 0 h52)) else ( some (.inl h40)))) else ( some (.inr h))
def K_M_river_J163 (N : Nat) (x1 : Int32) (y1 : Int32) (y2 : Int32) (h : Hp) : Option ((Int32 × Hp) ⊕ (Hp)) :=
  sA 24 y1 <| nm (hset h 104 (Int32.toNatClampNeg y1) y2) <| fun h163 => nm (x1 + (-1)) <| fun v164 => some (.inl (v164, h163))
def K_M_river_L118 (N : Nat) (x1 : Int32) (h : Hp) : Option ((Int32 × Hp) ⊕ (Hp)) :=
   if x1 < 0 then ( some (.inr h)) else (bd (K_M_has (h 100 5) 2) <| fun v127 => if v127 = 0 then (gA 96 (h 103) (48 + x1) <| fun v147 => if v147 = 1 then (gA 24 (h 104) 18 <| fun v162 => K_M_river_J163 N x1 18 v162 h) else ( K_M_river_J163 N x1 18 x1 h)) else ( some (.inr h)))
def K_M_river_L172 (N : Nat) (x1 : Int32) (h : Hp) : Option ((Int32 × Hp) ⊕ (Hp)) :=
   if 48 ≤ x1 then ( some (.inr h)) else (gA 96 (h 103) (48 + x1) <| fun v191 => sA 96 x1 <| nm (hset h 103 (Int32.toNatClampNeg x1) v191) <| fun h192 => nm (x1 + 1) <| fun v193 => some (.inl (v193, h192)))
def K_M_river_L201 (N : Nat) (x1 : Int32) (h : Hp) : Option ((Int32 × Hp) ⊕ (Hp)) :=
   if 12 ≤ x1 then ( some (.inr h)) else (gA 24 (h 104) (12 + x1) <| fun v220 => sA 24 x1 <| nm (hset h 104 (Int32.toNatClampNeg x1) v220) <| fun h221 => nm (x1 + 1) <| fun v222 => some (.inl (v222, h221)))
def K_M_river_L230 (N : Nat) (x1 : Int32) (h : Hp) : Option ((Int32 × Hp) ⊕ (Hp)) :=
   if 8 ≤ x1 then ( some (.inr h)) else (gA 16 (h 105) (8 + x1) <| fun v249 => sA 16 x1 <| nm (hset h 105 (Int32.toNatClampNeg x1) v249) <| fun h250 => nm (x1 + 1) <| fun v251 => some (.inl (v251, h250)))
def K_M_river_J170 (N : Nat) (h : Hp) : Option (Int32 × Hp) :=
  bd (loopN (fun z_ : Int32 × Hp => K_M_river_L172 N z_.1 z_.2) N (0, h)) <| fun t172 => bd (loopN (fun z_ : Int32 × Hp => K_M_river_L201 N z_.1 z_.2) N (0, t172)) <| fun t201 => bd (loopN (fun z_ : Int32 × Hp => K_M_river_L230 N z_.1 z_.2) N (0, t201)) <| fun t230 => gA 24 (t230 104) 6 <| fun v268 => sA 12 0 <| nm (hset t230 101 (Int32.toNatClampNeg 0) v268) <| fun h269 => gA 24 (h269 104) 7 <| fun v281 => sA 12 1 <| nm (hset h269 101 (Int32.toNatClampNeg 1) v281) <| fun h282 => sA 12 2 <| nm (hset h282 101 (Int32.toNatClampNeg 2) 0) <| fun h289 => nm (hset h289 100 26 0) <| fun h292 => nm (hset h292 100 32 0) <| fun h297 => nm (hset h297 100 16 0) <| fun h302 => sA 2 0 <| nm (hset h302 102 (Int32.toNatClampNeg 0) 0) <| fun h311 => sA 2 1 <| nm (hset h311 102 (Int32.toNatClampNeg 1) 0) <| fun h318 => bd (K_M_squares 0 h318) <| fun v321 => some (v321, h318)
def K_M_river_J89 (N : Nat) (h : Hp) : Option (Int32 × Hp) :=
  nm (hset h 100 7 0) <| fun h91 => if (h91 100 10) ≤ 0 then (bd (K_M_squares 12 h91) <| fun v112 => nm ((v112 - 1)) <| fun v117 => bd (loopN (fun z_ : Int32 × Hp => K_M_river_L118 N z_.1 z_.2) N (v117, h91)) <| fun t118 =>  K_M_river_J170 N t118) else ( some (((-10) - (h91 100 10)), h91))
def K_M_river (N : Nat) (h : Hp) : Option (Int32 × Hp) :=
  nm (hset h 100 8 0) <| fun h2 => nm (hset h2 100 10 0) <| fun h7 => nm (hset h7 100 11 (-1)) <| fun h12 => nm (hset h12 100 5 0) <| fun h17 => bd (K_M_tellNothing N 1 h17) <| fun h22 => bd (loopN (fun z_ : Hp => K_M_river_L25 N z_) N h22) <| fun t25 =>  K_M_river_J89 N t25
def K_M_fault (h : Hp) : Option (Int32) :=
   some (h 100 11)
def K_M_isNone (h : Hp) : Option (Int32) :=
  bd (K_M_squares 0 h) <| fun v2 => if v2 = 0 then ( some 1) else ( some 0)
def K_M_pair (a0 : Int32) (h : Hp) : Option (Int32) :=
  bd (K_M_isNone h) <| fun v1 => if v1 = 0 then (gA 24 (h 104) 0 <| fun v19 => dz v19 <| gA 24 (h 104) 0 <| fun v28 => dz v28 <| some ((10 * (rm32 a0 v19)) + (a0 / v28))) else ( some 0)
def K_M_isSquare (a0 : Int32) (b0 : Int32) (h : Hp) : Option (Int32) :=
  gA 24 (h 104) 0 <| fun v8 => bd (K_M_in (Int32.toInt64 a0) 0 (Int32.toInt64 (v8 - 1))) <| fun v12 => if v12 = 0 then ( some 0) else (gA 24 (h 104) 1 <| fun v26 => bd (K_M_in (Int32.toInt64 b0) 0 (Int32.toInt64 (v26 - 1))) <| fun v30 => if v30 = 0 then ( some 0) else ( some 1))
def K_M_isGoal_J44 (h : Hp) : Option (Int32) :=
   some 1
def K_M_isGoal (a0 : Int32) (b0 : Int32) (h : Hp) : Option (Int32) :=
  gA 24 (h 104) 8 <| fun v6 => if v6 < 0 then ( some 0) else (gA 24 (h 104) 8 <| fun v17 => if a0 = v17 then (gA 24 (h 104) 9 <| fun v27 => if v27 = 8 then ( K_M_isGoal_J44 h) else (gA 24 (h 104) 9 <| fun v39 => if v39 = b0 then ( K_M_isGoal_J44 h) else ( some 0))) else ( some 0))
def K_M_told (a0 : Int32) (h : Hp) : Option (Int32) :=
   if a0 = 0 then (gA 24 (h 104) 0 <| fun v93 => some v93) else ( if a0 = 1 then (gA 24 (h 104) 1 <| fun v100 => some v100) else ( if a0 = 2 then (gA 24 (h 104) 2 <| fun v107 => some v107) else ( if a0 = 3 then (gA 24 (h 104) 3 <| fun v114 => some v114) else ( if a0 = 4 then (gA 24 (h 104) 4 <| fun v121 => some v121) else ( if a0 = 5 then (gA 24 (h 104) 5 <| fun v128 => some v128) else ( if a0 = 6 then ( some (h 100 7)) else ( if a0 = 7 then (gA 12 (h 101) 0 <| fun v141 => bd (K_M_pair v141 h) <| fun v142 => some v142) else ( if a0 = 8 then (gA 12 (h 101) 1 <| fun v151 => some v151) else ( if a0 = 9 then (gA 12 (h 101) 2 <| fun v158 => some v158) else ( if a0 = 10 then (gA 24 (h 104) 8 <| fun v166 => if 0 ≤ v166 then (gA 24 (h 104) 8 <| fun v181 => bd (K_M_pair v181 h) <| fun v182 => some v182) else ( some (-1))) else ( if a0 = 11 then (gA 24 (h 104) 9 <| fun v192 => some v192) else ( if a0 = 12 then (gA 24 (h 104) 10 <| fun v200 => some v200) else ( if a0 = 13 then (gA 24 (h 104) 11 <| fun v208 => some v208) else ( if a0 = 14 then (gA 12 (h 101) 0 <| fun v216 => gA 12 (h 101) 1 <| fun v222 => bd (K_M_isGoal v216 v222 h) <| fun v223 => bd (K_M_one v223) <| fun v226 => some v226) else ( if a0 = 15 then ( some (h 100 26)) else ( if a0 = 16 then ( some (h 100 32)) else ( if a0 = 17 then ( some (h 100 16)) else ( some (-1000000002)))))))))))))))))))
def K_M_square (a0 : Int32) (b0 : Int32) (h : Hp) : Option (Int32) :=
  bd (K_M_isSquare a0 b0 h) <| fun v3 => if v3 = 0 then ( some (-1000000001)) else (gA 24 (h 104) 0 <| fun v19 => gA 96 (h 103) ((b0 * v19) + a0) <| fun v23 => some v23)
def K_M_habit (a0 : Int32) (b0 : Int32) (h : Hp) : Option (Int32) :=
  bd (K_M_in (Int32.toInt64 a0) 0 1) <| fun v4 => if v4 = 0 then ( some (-1000000002)) else (bd (K_M_in (Int32.toInt64 b0) 0 3) <| fun v16 => if v16 = 0 then ( some (-1000000002)) else (gA 16 (h 105) ((4 * a0) + b0) <| fun v31 => some v31))
def K_M_side (a0 : Int32) : Option (Int32) :=
   if a0 = 0 then ( some 1) else ( if a0 = 1 then ( some (-1)) else ( some 0))
def K_M_strike (a0 : Int32) : Option (Int32) :=
   if 2 ≤ a0 then ( if a0 = 2 then ( some (-1)) else ( some 0)) else ( some 1)
def K_M_turnBy (a0 : Int32) (b0 : Int32) (h : Hp) : Option (Int32) :=
  bd (K_M_side a0) <| fun v1 => gA 24 (h 104) 2 <| fun v9 => bd (K_M_side b0) <| fun v18 => gA 24 (h 104) 3 <| fun v27 => gA 24 (h 104) 4 <| fun v35 => dz v35 <| some (((v1 * (v9 + (h 100 12))) + ((2 * v18) * v27)) / v35)
def K_M_pushBy (a0 : Int32) (b0 : Int32) (h : Hp) : Option (Int32) :=
  bd (K_M_strike a0) <| fun v1 => gA 24 (h 104) 2 <| fun v9 => bd (K_M_strike b0) <| fun v17 => gA 24 (h 104) 3 <| fun v25 => gA 24 (h 104) 5 <| fun v33 => dz v33 <| nm ((((v1 * (v9 + (h 100 12))) + (v17 * v25)) / v33)) <| fun v35 => if v35 ≤ 2 then ( if (-2) ≤ v35 then ( some v35) else ( some (-2))) else ( some 2)
def K_M_east (a0 : Int32) : Option (Int32) :=
  bd (K_M_in (Int32.toInt64 a0) 1 3) <| fun v6 => if v6 = 0 then (bd (K_M_in (Int32.toInt64 a0) 5 7) <| fun v24 => if v24 = 0 then ( some 0) else ( some (-1))) else ( some 1)
def K_M_north_J11 : Option (Int32) :=
   some 1
def K_M_north (a0 : Int32) : Option (Int32) :=
   if a0 < 2 then ( K_M_north_J11) else ( if a0 = 7 then ( K_M_north_J11) else (bd (K_M_in (Int32.toInt64 a0) 3 5) <| fun v23 => if v23 = 0 then ( some 0) else ( some (-1))))
def K_M_beside (a0 : Int32) (b0 : Int32) (c0 : Int32) (h : Hp) : Option (Int32) :=
  gA 24 (h 104) 0 <| fun v6 => dz v6 <| nm (((rm32 a0 v6) + b0)) <| fun v10 => gA 24 (h 104) 0 <| fun v18 => dz v18 <| nm (((a0 / v18) - c0)) <| fun v22 => bd (K_M_isSquare v10 v22 h) <| fun v29 => if v29 = 0 then ( some a0) else (gA 24 (h 104) 0 <| fun v46 => gA 96 (h 103) ((v22 * v46) + v10) <| fun v51 => if v51 = 1 then ( some a0) else (gA 24 (h 104) 0 <| fun v63 => some ((v22 * v63) + v10)))
def K_M_driven (a0 : Int32) (b0 : Int32) (h : Hp) : Option (Int32) :=
  bd (K_M_east (2 * b0)) <| fun v5 => bd (K_M_north (2 * b0)) <| fun v11 => bd (K_M_beside a0 v5 v11 h) <| fun v14 => some v14
def K_M_strokeFrom_J149 (N : Nat) (y1 : Int32) (h : Hp) : Option (Hp) :=
  nm (hset h 100 13 y1) <| fun h149 => some h149
def K_M_strokeFrom_J112 (N : Nat) (h : Hp) : Option (Hp) :=
  gA 96 (h 103) (h 100 13) <| fun v120 => if v120 ≤ 2 then ( K_M_strokeFrom_J149 N (h 100 13) h) else (bd (K_M_driven (h 100 13) (v120 - 3) h) <| fun v139 => K_M_strokeFrom_J149 N v139 h)
def K_M_strokeFrom_L69 (N : Nat) (x7 : Int32) (x8 : Int32) (h : Hp) : Option ((Int32 × Hp) ⊕ (Hp)) :=
   if x8 ≤ 0 then ( some (.inr h)) else (bd (K_M_east (h 100 14)) <| fun v86 => bd (K_M_north (h 100 14)) <| fun v96 => bd (K_M_beside (h 100 13) (x7 * v86) (x7 * v96) h) <| fun v100 => nm (hset h 100 13 v100) <| fun h103 => nm (x8 + (-1)) <| fun v106 => some (.inl (v106, h103)))
def K_M_strokeFrom_J60 (N : Nat) (x6 : Int32) (y0 : Int32) (h : Hp) : Option (Hp) :=
  nm ((x6 * y0)) <| fun v67 => bd (loopN (fun z_ : Int32 × Hp => K_M_strokeFrom_L69 N y0 z_.1 z_.2) N (v67, h)) <| fun t69 =>  K_M_strokeFrom_J112 N t69
def K_M_strokeFrom (N : Nat) (a0 : Int32) (b0 : Int32) (c0 : Int32) (d0 : Int32) (h : Hp) : Option (Hp) :=
  bd (K_M_turnBy c0 d0 h) <| fun v4 => nm ((rm32 v4 8)) <| fun v10 => nm (hset h 100 14 (rm32 ((b0 + v10) + 8) 8)) <| fun h23 => bd (K_M_pushBy c0 d0 h23) <| fun v30 => nm (hset h23 100 13 a0) <| fun h37 => gA 96 (h37 103) a0 <| fun v45 => if v45 = 2 then ( K_M_strokeFrom_J112 N h37) else ( if 0 ≤ v30 then ( K_M_strokeFrom_J60 N v30 1 h37) else ( K_M_strokeFrom_J60 N v30 (-1) h37))
def K_M_windAt_J55 (y1 : Int32) (h : Hp) : Option (Hp) :=
  nm (hset h 100 13 y1) <| fun h55 => some h55
def K_M_windAt_J27 (y0 : Int32) (h : Hp) : Option (Hp) :=
   if y0 = 0 then ( K_M_windAt_J55 (h 100 13) h) else (gA 24 (h 104) 10 <| fun v44 => bd (K_M_driven (h 100 13) v44 h) <| fun v45 => K_M_windAt_J55 v45 h)
def K_M_windAt_J26 (h : Hp) : Option (Hp) :=
   K_M_windAt_J27 0 h
def K_M_windAt (a0 : Int32) (h : Hp) : Option (Hp) :=
  gA 24 (h 104) 10 <| fun v6 => if v6 < 0 then ( K_M_windAt_J26 h) else (gA 24 (h 104) 11 <| fun v17 => dz v17 <| if (rm32 a0 v17) = 0 then ( K_M_windAt_J27 1 h) else ( K_M_windAt_J26 h))
def K_M_remember_L50 (N : Nat) (x1 : Int32) (h : Hp) : Option ((Int32 × Hp) ⊕ (Hp)) :=
   if 3 ≤ x1 then ( some (.inr h)) else (gA 12 (h 101) x1 <| fun v72 => sA 150 ((3 * (h 100 16)) + x1) <| nm (hset h 107 (Int32.toNatClampNeg ((3 * (h 100 16)) + x1)) v72) <| fun h73 => nm (x1 + 1) <| fun v74 => some (.inl (v74, h73)))
def K_M_remember_J48 (N : Nat) (h : Hp) : Option (Hp) :=
  bd (loopN (fun z_ : Int32 × Hp => K_M_remember_L50 N z_.1 z_.2) N (0, h)) <| fun t50 => nm (hset t50 100 16 ((t50 100 16) + 1)) <| fun h87 => some h87
def K_M_remember_L11 (N : Nat) (x1 : Int32) (h : Hp) : Option ((Int32 × Hp) ⊕ (Hp)) :=
   if 150 ≤ x1 then ( some (.inr h)) else (gA 150 (h 107) x1 <| fun v30 => sA 150 (x1 - 3) <| nm (hset h 107 (Int32.toNatClampNeg (x1 - 3)) v30) <| fun h31 => nm (x1 + 1) <| fun v32 => some (.inl (v32, h31)))
def K_M_remember (N : Nat) (h : Hp) : Option (Hp) :=
   if (h 100 16) = 50 then (bd (loopN (fun z_ : Int32 × Hp => K_M_remember_L11 N z_.1 z_.2) N (3, h)) <| fun t11 => nm (hset t11 100 16 ((t11 100 16) - 1)) <| fun h45 => K_M_remember_J48 N h45) else ( K_M_remember_J48 N h)
def K_M_go (N : Nat) (a0 : Int32) (b0 : Int32) (h : Hp) : Option (Hp) :=
  bd (K_M_remember N h) <| fun h1 => gA 12 (h1 101) 0 <| fun v10 => gA 12 (h1 101) 1 <| fun v16 => bd (K_M_strokeFrom N v10 v16 a0 b0 h1) <| fun h19 => gA 12 (h19 101) 2 <| fun v28 => sA 12 2 <| nm (hset h19 101 (Int32.toNatClampNeg 2) (v28 + 1)) <| fun h31 => gA 12 (h31 101) 2 <| fun v38 => bd (K_M_windAt v38 h31) <| fun h39 => sA 12 0 <| nm (hset h39 101 (Int32.toNatClampNeg 0) (h39 100 13)) <| fun h51 => sA 12 1 <| nm (hset h51 101 (Int32.toNatClampNeg 1) (h51 100 14)) <| fun h61 => some h61
def K_M_isStroke (a0 : Int32) : Option (Int32) :=
  bd (K_M_in (Int32.toInt64 a0) 0 3) <| fun v6 => bz v6 <| some v6
def K_M_stroke (N : Nat) (a0 : Int32) (b0 : Int32) (h : Hp) : Option (Int32 × Hp) :=
  bd (K_M_isStroke a0) <| fun v1 => if v1 = 0 then ( some ((-1000000002), h)) else (bd (K_M_isStroke b0) <| fun v8 => if v8 = 0 then ( some ((-1000000002), h)) else (bd (K_M_isNone h) <| fun v18 => if v18 = 0 then (bd (K_M_go N a0 b0 h) <| fun h30 => gA 12 (h30 101) 0 <| fun v39 => bd (K_M_pair v39 h30) <| fun v40 => some (v40, h30)) else ( some ((-1000000003), h))))
def K_M_would (N : Nat) (a0 : Int32) (b0 : Int32) (c0 : Int32) (h : Hp) : Option (Int32 × Hp) :=
  bd (K_M_isStroke a0) <| fun v1 => if v1 = 0 then ( some ((-1000000002), h)) else (bd (K_M_isStroke b0) <| fun v8 => if v8 = 0 then ( some ((-1000000002), h)) else (bd (K_M_in (Int32.toInt64 c0) 0 3) <| fun v20 => if v20 = 0 then ( some ((-1000000002), h)) else (bd (K_M_isNone h) <| fun v30 => if v30 = 0 then (gA 12 (h 101) 0 <| fun v45 => gA 12 (h 101) 1 <| fun v51 => bd (K_M_strokeFrom N v45 v51 a0 b0 h) <| fun h54 => gA 12 (h54 101) 2 <| fun v63 => bd (K_M_windAt (v63 + 1) h54) <| fun h66 => if c0 = 0 then (bd (K_M_pair (h66 100 13) h66) <| fun v78 => some (v78, h66)) else ( if c0 = 1 then ( some ((h66 100 14), h66)) else ( if c0 = 2 then (bd (K_M_turnBy a0 b0 h66) <| fun v104 => some (v104, h66)) else (bd (K_M_pushBy a0 b0 h66) <| fun v113 => some (v113, h66))))) else ( some ((-1000000003), h)))))
def K_M_back_L38 (N : Nat) (x2 : Int32) (h : Hp) : Option ((Int32 × Hp) ⊕ (Hp)) :=
   if 3 ≤ x2 then ( some (.inr h)) else (gA 150 (h 107) ((3 * (h 100 16)) + x2) <| fun v60 => sA 12 x2 <| nm (hset h 101 (Int32.toNatClampNeg x2) v60) <| fun h61 => nm (x2 + 1) <| fun v62 => some (.inl (v62, h61)))
def K_M_back (N : Nat) (a0 : Int32) (h : Hp) : Option (Int32 × Hp) :=
  bd (K_M_in (Int32.toInt64 a0) 1 50) <| fun v6 => if v6 = 0 then ( some ((-1000000002), h)) else ( if a0 ≤ (h 100 16) then (nm (hset h 100 16 ((h 100 16) - a0)) <| fun h33 => bd (loopN (fun z_ : Int32 × Hp => K_M_back_L38 N z_.1 z_.2) N (0, h33)) <| fun t38 => gA 12 (t38 101) 2 <| fun v73 => some (v73, t38)) else ( some ((-1000000003), h)))
def K_M_set (a0 : Int32) (b0 : Int32) (c0 : Int32) (h : Hp) : Option (Int32 × Hp) :=
  bd (K_M_isSquare a0 b0 h) <| fun v3 => if v3 = 0 then ( some ((-1000000001), h)) else (bd (K_M_in (Int32.toInt64 c0) 0 7) <| fun v18 => if v18 = 0 then ( some ((-1000000002), h)) else (gA 24 (h 104) 0 <| fun v33 => nm (((b0 * v33) + a0)) <| fun v37 => gA 96 (h 103) v37 <| fun v45 => if v45 = 1 then ( some ((-1000000003), h)) else (gA 12 (h 101) 0 <| fun v59 => bd (K_M_pair v59 h) <| fun v60 => sA 12 0 <| nm (hset h 101 (Int32.toNatClampNeg 0) v37) <| fun h72 => sA 12 1 <| nm (hset h72 101 (Int32.toNatClampNeg 1) c0) <| fun h79 => some (v60, h79))))
def K_M_draw (a0 : Int32) (h : Hp) : Option (Int32 × Hp) :=
  gA 12 (h 101) 3 <| fun v10 => sA 12 3 <| nm (hset h 101 (Int32.toNatClampNeg 3) (Int64.toInt32 (rm64 (((Int32.toInt64 v10) * 1103515245) + 12345) 2147483648))) <| fun h25 => gA 12 (h25 101) 3 <| fun v31 => dz a0 <| some ((rm32 (v31 / 65536) a0), h25)
def K_M_drift_L27 (N : Nat) (x1 : Int32) (x2 : Int32) (h : Hp) : Option ((Int32 × Hp) ⊕ (Hp)) :=
   if x1 ≤ x2 then ( some (.inr h)) else (bd2 (K_M_draw 16 h) <| fun v35 h35 => bd (K_M_go N (v35 / 4) (rm32 v35 4) h35) <| fun h46 => nm (x2 + 1) <| fun v49 => some (.inl (v49, h46)))
def K_M_drift (N : Nat) (a0 : Int32) (h : Hp) : Option (Int32 × Hp) :=
  bd (K_M_in (Int32.toInt64 a0) 1 99) <| fun v6 => if v6 = 0 then ( some ((-1000000002), h)) else (bd (K_M_isNone h) <| fun v16 => if v16 = 0 then (bd (loopN (fun z_ : Int32 × Hp => K_M_drift_L27 N a0 z_.1 z_.2) N (0, h)) <| fun t27 => gA 12 (t27 101) 0 <| fun v61 => bd (K_M_pair v61 t27) <| fun v62 => some (v62, t27)) else ( some ((-1000000003), h)))
def K_M_times (h : Hp) : Option (Int32) :=
  gA 24 (h 104) 10 <| fun v6 => if 0 ≤ v6 then (gA 24 (h 104) 11 <| fun v20 => some v20) else ( some 1)
def K_M_stateOf (a0 : Int32) (b0 : Int32) (c0 : Int32) (h : Hp) : Option (Int32) :=
  bd (K_M_times h) <| fun v7 => bd (K_M_times h) <| fun v13 => dz v13 <| some ((((a0 * 8) + b0) * v7) + (rm32 c0 v13))
def K_M_stateNow (h : Hp) : Option (Int32) :=
  gA 12 (h 101) 0 <| fun v6 => gA 12 (h 101) 1 <| fun v12 => gA 12 (h 101) 2 <| fun v18 => bd (K_M_stateOf v6 v12 v18 h) <| fun v19 => some v19
def K_M_states (h : Hp) : Option (Int32) :=
  bd (K_M_squares 0 h) <| fun v2 => bd (K_M_times h) <| fun v9 => some ((v2 * 8) * v9)
def K_M_after (N : Nat) (a0 : Int32) (b0 : Int32) (c0 : Int32) (h : Hp) : Option (Int32 × Hp) :=
  bd (K_M_times h) <| fun v2 => dz v2 <| nm (((rm32 a0 v2) + 1)) <| fun v8 => bd (K_M_times h) <| fun v12 => dz v12 <| nm ((a0 / v12)) <| fun v16 => bd (K_M_strokeFrom N (v16 / 8) (rm32 v16 8) b0 c0 h) <| fun h31 => bd (K_M_windAt v8 h31) <| fun h37 => bd (K_M_stateOf (h37 100 13) (h37 100 14) v8 h37) <| fun v51 => some (v51, h37)
def K_M_isGoalState (a0 : Int32) (h : Hp) : Option (Int32) :=
  bd (K_M_times h) <| fun v2 => dz v2 <| nm ((a0 / v2)) <| fun v6 => bd (K_M_isGoal (v6 / 8) (rm32 v6 8) h) <| fun v16 => bz v16 <| some v16
def K_M_leastAfter_J52 (N : Nat) (x1 : Int32) (x3 : Int32) (x4 : Int32) (y0 : Int32) (h : Hp) : Option ((Int32 × Int32 × Hp) ⊕ (Int32 × Hp)) :=
  nm (x4 + 1) <| fun v53 => some (.inl (y0, v53, h))
def K_M_leastAfter_L19 (N : Nat) (x1 : Int32) (x2 : Int32) (x3 : Int32) (x4 : Int32) (h : Hp) : Option ((Int32 × Int32 × Hp) ⊕ (Int32 × Hp)) :=
   if 4 ≤ x4 then ( some (.inr (x2, h))) else (bd2 (K_M_after N x1 x3 x4 h) <| fun v34 h34 => gA 3456 (h34 108) v34 <| fun v37 => if x2 ≤ v37 then ( K_M_leastAfter_J52 N x1 x3 x4 x2 h34) else ( K_M_leastAfter_J52 N x1 x3 x4 v37 h34))
def K_M_leastAfter_L5 (N : Nat) (x1 : Int32) (x2 : Int32) (x3 : Int32) (h : Hp) : Option ((Int32 × Int32 × Hp) ⊕ (Int32 × Hp)) :=
   if (h 100 18) < x3 then ( some (.inr (x2, h))) else (nm ((h 100 19)) <| fun v17 => bd (loopN (fun z_ : Int32 × Int32 × Hp => K_M_leastAfter_L19 N x1 z_.1 x3 z_.2.1 z_.2.2) N (x2, v17, h)) <| fun t19 => nm (x3 + 1) <| fun v59 => some (.inl (t19.1, v59, t19.2)))
def K_M_leastAfter (N : Nat) (a0 : Int32) (h : Hp) : Option (Int32 × Hp) :=
  bd (loopN (fun z_ : Int32 × Int32 × Hp => K_M_leastAfter_L5 N a0 z_.1 z_.2.1 z_.2.2) N (99999999, 0, h)) <| fun t5 =>  some (t5.1, t5.2)
def K_M_findFar_J29 (N : Nat) (x1 : Int32) (y1 : Int32) (y2 : Int32) (h : Hp) : Option ((Int32 × Hp) ⊕ (Hp)) :=
  sA 3456 y1 <| nm (hset h 108 (Int32.toNatClampNeg y1) y2) <| fun h29 => nm (x1 + 1) <| fun v30 => some (.inl (v30, h29))
def K_M_findFar_L2 (N : Nat) (x1 : Int32) (h : Hp) : Option ((Int32 × Hp) ⊕ (Hp)) :=
  bd (K_M_states h) <| fun v4 => if v4 ≤ x1 then ( some (.inr h)) else (bd (K_M_isGoalState x1 h) <| fun v17 => if v17 = 0 then ( K_M_findFar_J29 N x1 x1 99999999 h) else ( K_M_findFar_J29 N x1 x1 0 h))
def K_M_findFar_J96 (N : Nat) (x1 : Int32) (x2 : Int32) (x3 : Int32) (y0 : Int32) (h : Hp) : Option ((Int32 × Int32 × Hp) ⊕ (Int32 × Hp)) :=
   if y0 = 0 then (nm (x3 + 1) <| fun v123 => some (.inl (x1, v123, h))) else (bd2 (K_M_leastAfter N x3 h) <| fun v105 h105 => if v105 = (x2 - 1) then (sA 3456 x3 <| nm (hset h105 108 (Int32.toNatClampNeg x3) x2) <| fun h120 => nm (x3 + 1) <| fun v123 => some (.inl (1, v123, h120))) else (nm (x3 + 1) <| fun v123 => some (.inl (x1, v123, h105))))
def K_M_findFar_J95 (N : Nat) (x1 : Int32) (x2 : Int32) (x3 : Int32) (h : Hp) : Option ((Int32 × Int32 × Hp) ⊕ (Int32 × Hp)) :=
   K_M_findFar_J96 N x1 x2 x3 0 h
def K_M_findFar_L54 (N : Nat) (x1 : Int32) (x2 : Int32) (x3 : Int32) (h : Hp) : Option ((Int32 × Int32 × Hp) ⊕ (Int32 × Hp)) :=
  bd (K_M_states h) <| fun v56 => if v56 ≤ x3 then ( some (.inr (x1, h))) else (gA 3456 (h 108) x3 <| fun v67 => if v67 = 99999999 then (bd (K_M_times h) <| fun v79 => dz v79 <| gA 96 (h 103) ((x3 / v79) / 8) <| fun v86 => if v86 = 1 then ( K_M_findFar_J95 N x1 x2 x3 h) else ( K_M_findFar_J96 N x1 x2 x3 1 h)) else ( K_M_findFar_J95 N x1 x2 x3 h))
def K_M_findFar_L40 (N : Nat) (x1 : Int32) (x2 : Int32) (h : Hp) : Option ((Int32 × Int32 × Hp) ⊕ (Hp)) :=
   if 60 < x2 then ( some (.inr h)) else ( if x1 = 0 then ( some (.inr h)) else (bd (loopN (fun z_ : Int32 × Int32 × Hp => K_M_findFar_L54 N z_.1 x2 z_.2.1 z_.2.2) N (0, 0, h)) <| fun t54 => nm (x2 + 1) <| fun v129 => some (.inl (t54.1, v129, t54.2))))
def K_M_findFar (N : Nat) (h : Hp) : Option (Hp) :=
  bd (loopN (fun z_ : Int32 × Hp => K_M_findFar_L2 N z_.1 z_.2) N (0, h)) <| fun t2 => bd (loopN (fun z_ : Int32 × Int32 × Hp => K_M_findFar_L40 N z_.1 z_.2.1 z_.2.2) N (1, 1, t2)) <| fun t40 =>  some t40
def K_M_findFarBy (N : Nat) (a0 : Int32) (b0 : Int32) (h : Hp) : Option (Hp) :=
  nm (hset h 100 12 a0) <| fun h2 => nm (hset h2 100 18 3) <| fun h7 => nm (hset h7 100 19 b0) <| fun h12 => bd (K_M_findFar N h12) <| fun h16 => some h16
def K_M_fewest_J43 (N : Nat) (x1 : Int32) (x3 : Int32) (h : Hp) : Option (Int32 × Hp) :=
   if x3 = 99999999 then ( some ((-1), h)) else ( if x1 = (-1) then ( some (x3, h)) else ( some ((-1), h)))
def K_M_fewest_L75 (N : Nat) (x1 : Int32) (x2 : Int32) (x3 : Int32) (x4 : Int32) (x5 : Int32) (h : Hp) : Option ((Int32 × Hp) ⊕ (Int32 × Hp)) :=
  bd2 (K_M_after N x2 (x4 / 4) (rm32 x4 4) h) <| fun v89 h89 => gA 3456 (h89 108) v89 <| fun v92 => if v92 = ((x3 - x5) - 1) then ( some (.inr (x4, h89))) else (nm (x4 + 1) <| fun v102 => some (.inl (v102, h89)))
def K_M_fewest_L66 (N : Nat) (x1 : Int32) (x2 : Int32) (x3 : Int32) (x4 : Int32) (x5 : Int32) (h : Hp) : Option ((Int32 × Int32 × Int32 × Hp) ⊕ (Int32 × Hp)) :=
   if x1 < x5 then ( some (.inr (x4, h))) else (bd (loopN (fun z_ : Int32 × Hp => K_M_fewest_L75 N x1 x2 x3 z_.1 x5 z_.2) N (0, h)) <| fun t75 => bd2 (K_M_after N x2 (t75.1 / 4) (rm32 t75.1 4) t75.2) <| fun v118 h118 => nm (x5 + 1) <| fun v122 => some (.inl (v118, t75.1, v122, h118)))
def K_M_fewest (N : Nat) (a0 : Int32) (h : Hp) : Option (Int32 × Hp) :=
  bd (K_M_isNone h) <| fun v1 => if v1 = 0 then (bd (K_M_findFarBy N 0 0 h) <| fun h13 => bd (K_M_stateNow h13) <| fun v17 => gA 3456 (h13 108) v17 <| fun v26 => if v26 = 99999999 then ( K_M_fewest_J43 N a0 v26 h13) else ( if a0 < 0 then ( K_M_fewest_J43 N a0 v26 h13) else ( if a0 < v26 then (bd (loopN (fun z_ : Int32 × Int32 × Int32 × Hp => K_M_fewest_L66 N a0 z_.1 v26 z_.2.1 z_.2.2.1 z_.2.2.2) N (v17, 0, 0, h13)) <| fun t66 =>  some (t66.1, t66.2)) else ( K_M_fewest_J43 N a0 v26 h13)))) else ( some ((-1000000003), h))
def K_M_alone (N : Nat) (h : Hp) : Option (Int32 × Hp) :=
  bd (K_M_isNone h) <| fun v1 => if v1 = 0 then (bd (K_M_findFarBy N 0 3 h) <| fun h13 => bd (K_M_stateNow h13) <| fun v21 => gA 3456 (h13 108) v21 <| fun v24 => if v24 = 99999999 then ( some ((-1), h13)) else ( some (v24, h13))) else ( some ((-1000000003), h))
def K_M_third (N : Nat) (a0 : Int32) (h : Hp) : Option (Int32 × Hp) :=
  bd (K_M_in (Int32.toInt64 a0) 1 9) <| fun v6 => if v6 = 0 then ( some ((-1000000002), h)) else (bd (K_M_isNone h) <| fun v16 => if v16 = 0 then (bd (K_M_findFarBy N a0 0 h) <| fun h28 => nm (hset h28 100 12 0) <| fun h33 => bd (K_M_stateNow h33) <| fun v41 => gA 3456 (h33 108) v41 <| fun v44 => if v44 = 99999999 then ( some ((-1), h33)) else ( some (v44, h33))) else ( some ((-1000000003), h)))
def K_M_callOn_L2 (N : Nat) (x1 : Int32) (h : Hp) : Option ((Int32 × Hp) ⊕ (Hp)) :=
  bd (K_M_states h) <| fun v6 => if (16 * v6) ≤ x1 then ( some (.inr h)) else (sA 55296 x1 <| nm (hset h 110 (Int32.toNatClampNeg x1) 99999999) <| fun h20 => nm (x1 + 1) <| fun v21 => some (.inl (v21, h20)))
def K_M_callOn_J78 (N : Nat) (x1 : Int32) (x3 : Int32) (y0 : Int32) (h : Hp) : Option ((Int32 × Int32) ⊕ (Int32)) :=
  nm (x3 + 1) <| fun v79 => some (.inl (y0, v79))
def K_M_callOn_L42 (N : Nat) (x1 : Int32) (x2 : Int32) (x3 : Int32) (h : Hp) : Option ((Int32 × Int32) ⊕ (Int32)) :=
   if 16 ≤ x3 then ( some (.inr x2)) else (gA 55296 (h 109) ((16 * x1) + x3) <| fun v58 => if x2 ≤ v58 then ( K_M_callOn_J78 N x1 x3 x2 h) else (gA 55296 (h 109) ((16 * x1) + x3) <| fun v73 => K_M_callOn_J78 N x1 x3 v73 h))
def K_M_callOn_J183 (N : Nat) (x1 : Int32) (x2 : Int32) (x3 : Int32) (y1 : Int32) (y2 : Int32) (h : Hp) : Option ((Int32 × Hp) ⊕ (Hp)) :=
  sA 55296 y1 <| nm (hset h 110 (Int32.toNatClampNeg y1) y2) <| fun h183 => nm (x3 + 1) <| fun v184 => some (.inl (v184, h183))
def K_M_callOn_J133 (N : Nat) (x1 : Int32) (x2 : Int32) (x3 : Int32) (y0 : Int32) (h : Hp) : Option ((Int32 × Hp) ⊕ (Hp)) :=
  bd2 (K_M_after N x1 (x3 / 4) (rm32 x3 4) h) <| fun v145 h145 => nm (((16 * v145) + x3)) <| fun v151 => gA 55296 (h145 110) v151 <| fun v167 => if v167 ≤ y0 then (gA 55296 (h145 110) v151 <| fun v182 => K_M_callOn_J183 N x1 x2 x3 v151 v182 h145) else ( K_M_callOn_J183 N x1 x2 x3 v151 y0 h145)
def K_M_callOn_L87 (N : Nat) (x1 : Int32) (x2 : Int32) (x3 : Int32) (h : Hp) : Option ((Int32 × Hp) ⊕ (Hp)) :=
   if 16 ≤ x3 then ( some (.inr h)) else ( if 99999999 ≤ x2 then ( some (.inr h)) else (gA 55296 (h 109) ((16 * x1) + x3) <| fun v109 => if (x2 + 1) ≤ v109 then ( K_M_callOn_J133 N x1 x2 x3 (x2 + 1) h) else (gA 55296 (h 109) ((16 * x1) + x3) <| fun v126 => K_M_callOn_J133 N x1 x2 x3 v126 h)))
def K_M_callOn_L29 (N : Nat) (x1 : Int32) (h : Hp) : Option ((Int32 × Hp) ⊕ (Hp)) :=
  bd (K_M_states h) <| fun v31 => if v31 ≤ x1 then ( some (.inr h)) else (bd (loopN (fun z_ : Int32 × Int32 => K_M_callOn_L42 N x1 z_.1 z_.2 h) N (99999999, 0)) <| fun t42 => bd (loopN (fun z_ : Int32 × Hp => K_M_callOn_L87 N x1 t42 z_.1 z_.2) N (0, h)) <| fun t87 => nm (x1 + 1) <| fun v190 => some (.inl (v190, t87)))
def K_M_callOn_L198 (N : Nat) (x1 : Int32) (h : Hp) : Option ((Int32 × Hp) ⊕ (Hp)) :=
  bd (K_M_states h) <| fun v202 => if (16 * v202) ≤ x1 then ( some (.inr h)) else (gA 55296 (h 110) x1 <| fun v219 => sA 55296 x1 <| nm (hset h 109 (Int32.toNatClampNeg x1) v219) <| fun h220 => nm (x1 + 1) <| fun v221 => some (.inl (v221, h220)))
def K_M_callOn (N : Nat) (h : Hp) : Option (Hp) :=
  bd (loopN (fun z_ : Int32 × Hp => K_M_callOn_L2 N z_.1 z_.2) N (0, h)) <| fun t2 => bd (loopN (fun z_ : Int32 × Hp => K_M_callOn_L29 N z_.1 z_.2) N (0, t2)) <| fun t29 => bd (loopN (fun z_ : Int32 × Hp => K_M_callOn_L198 N z_.1 z_.2) N (0, t29)) <| fun t198 =>  some t198
def K_M_leastCalled_J47 (N : Nat) (x2 : Int32) (y0 : Int32) (h : Hp) : Option ((Int32 × Int32) ⊕ (Int32)) :=
  nm (x2 + 1) <| fun v48 => some (.inl (y0, v48))
def K_M_leastCalled_J46 (N : Nat) (x1 : Int32) (x2 : Int32) (h : Hp) : Option ((Int32 × Int32) ⊕ (Int32)) :=
   K_M_leastCalled_J47 N x2 x1 h
def K_M_leastCalled_L5 (N : Nat) (x1 : Int32) (x2 : Int32) (h : Hp) : Option ((Int32 × Int32) ⊕ (Int32)) :=
  bd (K_M_states h) <| fun v9 => if (16 * v9) ≤ x2 then ( some (.inr x1)) else (gA 55296 (h 109) x2 <| fun v21 => if x1 ≤ v21 then ( K_M_leastCalled_J46 N x1 x2 h) else (bd (K_M_isGoalState (x2 / 16) h) <| fun v31 => if v31 = 0 then ( K_M_leastCalled_J46 N x1 x2 h) else (gA 55296 (h 109) x2 <| fun v42 => K_M_leastCalled_J47 N x2 v42 h)))
def K_M_leastCalled (N : Nat) (h : Hp) : Option (Int32) :=
  bd (loopN (fun z_ : Int32 × Int32 => K_M_leastCalled_L5 N z_.1 z_.2 h) N (99999999, 0)) <| fun t5 =>  some t5
def K_M_calls_L42 (N : Nat) (x1 : Int32) (x2 : Int32) (x3 : Int32) (h : Hp) : Option ((Int32 × Hp) ⊕ (Hp)) :=
  bd (K_M_states h) <| fun v46 => if (16 * v46) ≤ x3 then ( some (.inr h)) else (sA 55296 x3 <| nm (hset h 109 (Int32.toNatClampNeg x3) 99999999) <| fun h60 => nm (x3 + 1) <| fun v61 => some (.inl (v61, h60)))
def K_M_calls_J151 (N : Nat) (x2 : Int32) (x4 : Int32) (x5 : Int32) (y0 : Int32) (h : Hp) : Option ((Int32 × Int32 × Int32 × Hp) ⊕ (Int32 × Int32 × Hp)) :=
  nm (x5 + 1) <| fun v152 => some (.inl (y0, x4, v152, h))
def K_M_calls_J137 (N : Nat) (x2 : Int32) (x3 : Int32) (x5 : Int32) (x6 : Int32) (y0 : Int32) (h : Hp) : Option ((Int32 × Int32 × Int32 × Hp) ⊕ (Int32 × Int32 × Hp)) :=
   if x3 ≤ x6 then ( K_M_calls_J151 N x2 y0 x5 x3 h) else ( K_M_calls_J151 N x2 y0 x5 x6 h)
def K_M_calls_L103 (N : Nat) (x2 : Int32) (x3 : Int32) (x4 : Int32) (x5 : Int32) (h : Hp) : Option ((Int32 × Int32 × Int32 × Hp) ⊕ (Int32 × Int32 × Hp)) :=
   if 60 < x5 then ( some (.inr (x3, x4, h))) else ( if x3 ≤ 0 then ( some (.inr (x3, x4, h))) else (bd (K_M_callOn N h) <| fun h115 => bd (K_M_leastCalled N h115) <| fun v119 => if x3 ≤ v119 then ( K_M_calls_J137 N x2 x3 x5 v119 x4 h115) else ( K_M_calls_J137 N x2 x3 x5 v119 x5 h115)))
def K_M_calls_J158 (N : Nat) (x2 : Int32) (x3 : Int32) (x4 : Int32) (h : Hp) : Option (Int32 × Hp) :=
   if x3 = 99999999 then ( some ((-1), h)) else ( if x2 = 0 then ( some (x3, h)) else ( some (x4, h)))
def K_M_calls_J98 (N : Nat) (x2 : Int32) (x3 : Int32) (y0 : Int32) (h : Hp) : Option (Int32 × Hp) :=
  bd (loopN (fun z_ : Int32 × Int32 × Int32 × Hp => K_M_calls_L103 N x2 z_.1 z_.2.1 z_.2.2.1 z_.2.2.2) N (x3, y0, 1, h)) <| fun t103 =>  K_M_calls_J158 N x2 t103.1 t103.2.1 t103.2.2
def K_M_calls (N : Nat) (a0 : Int32) (b0 : Int32) (h : Hp) : Option (Int32 × Hp) :=
  bd (K_M_in (Int32.toInt64 a0) 0 15) <| fun v6 => if v6 = 0 then ( some ((-1000000002), h)) else (bd (K_M_in (Int32.toInt64 b0) 0 1) <| fun v16 => if v16 = 0 then ( some ((-1000000002), h)) else (bd (K_M_isNone h) <| fun v26 => if v26 = 0 then (nm (hset h 100 12 0) <| fun h37 => bd (loopN (fun z_ : Int32 × Hp => K_M_calls_L42 N a0 b0 z_.1 z_.2) N (0, h37)) <| fun t42 => bd (K_M_stateNow t42) <| fun v74 => sA 55296 ((16 * v74) + a0) <| nm (hset t42 109 (Int32.toNatClampNeg ((16 * v74) + a0)) 0) <| fun h81 => bd (K_M_leastCalled N h81) <| fun v83 => if v83 = 99999999 then ( K_M_calls_J98 N b0 v83 (-1) h81) else ( K_M_calls_J98 N b0 v83 0 h81)) else ( some ((-1000000003), h))))
def K_M_afterMute (N : Nat) (a0 : Int32) (h : Hp) : Option (Int32 × Hp) :=
  nm ((rm32 a0 16)) <| fun v4 => bd2 (K_M_after N (a0 / 16) (v4 / 4) (rm32 v4 4) h) <| fun v16 h16 => gA 16 (h16 105) (rm32 v4 4) <| fun v32 => gA 16 (h16 105) (4 + (v4 / 4)) <| fun v44 => some ((((16 * v16) + (4 * v32)) + v44), h16)
def K_M_mute_L68 (N : Nat) (x2 : Int32) (x3 : Int32) (x4 : Int32) (x5 : Int32) (h : Hp) : Option ((Int32 × Int32 × Hp) ⊕ (Int32 × Hp)) :=
   if x2 ≤ x5 then ( some (.inr (x4, h))) else (bd2 (K_M_afterMute N x4 h) <| fun v77 h77 => nm (x5 + 1) <| fun v82 => some (.inl (v77, v82, h77)))
def K_M_mute (N : Nat) (a0 : Int32) (b0 : Int32) (c0 : Int32) (h : Hp) : Option (Int32 × Hp) :=
  bd (K_M_in (Int32.toInt64 a0) 0 15) <| fun v6 => if v6 = 0 then ( some ((-1000000002), h)) else (bd (K_M_in (Int32.toInt64 b0) 0 99) <| fun v18 => if v18 = 0 then ( some ((-1000000002), h)) else (bd (K_M_in (Int32.toInt64 c0) 0 2) <| fun v30 => if v30 = 0 then ( some ((-1000000002), h)) else (bd (K_M_isNone h) <| fun v40 => if v40 = 0 then (nm (hset h 100 12 0) <| fun h51 => bd (K_M_stateNow h51) <| fun v57 => nm (((16 * v57) + a0)) <| fun v63 => bd (loopN (fun z_ : Int32 × Int32 × Hp => K_M_mute_L68 N b0 c0 z_.1 z_.2.1 z_.2.2) N (v63, 0, h51)) <| fun t68 => bd (K_M_times t68.2) <| fun v94 => dz v94 <| nm (((t68.1 / 16) / v94)) <| fun v98 => if c0 = 0 then (bd (K_M_pair (v98 / 8) t68.2) <| fun v110 => some (v110, t68.2)) else ( if c0 = 1 then ( some ((rm32 v98 8), t68.2)) else ( some ((rm32 t68.1 16), t68.2)))) else ( some ((-1000000003), h)))))
def K_M_round_L42 (N : Nat) (x1 : Int32) (x2 : Int32) (x3 : Int32) (h : Hp) : Option ((Int32 × Hp) ⊕ (Hp)) :=
  bd (K_M_states h) <| fun v46 => if (16 * v46) ≤ x3 then ( some (.inr h)) else (sA 55296 x3 <| nm (hset h 109 (Int32.toNatClampNeg x3) (-1)) <| fun h59 => nm (x3 + 1) <| fun v60 => some (.inl (v60, h59)))
def K_M_round_L79 (N : Nat) (x2 : Int32) (x3 : Int32) (x4 : Int32) (h : Hp) : Option ((Int32 × Int32 × Hp) ⊕ (Int32 × Int32 × Hp)) :=
  gA 55296 (h 109) x3 <| fun v84 => if 0 ≤ v84 then ( some (.inr (x3, x4, h))) else (sA 55296 x3 <| nm (hset h 109 (Int32.toNatClampNeg x3) x4) <| fun h95 => bd2 (K_M_afterMute N x3 h95) <| fun v98 h98 => nm (x4 + 1) <| fun v102 => some (.inl (v98, v102, h98)))
def K_M_round (N : Nat) (a0 : Int32) (b0 : Int32) (h : Hp) : Option (Int32 × Hp) :=
  bd (K_M_in (Int32.toInt64 a0) 0 15) <| fun v6 => if v6 = 0 then ( some ((-1000000002), h)) else (bd (K_M_in (Int32.toInt64 b0) 0 1) <| fun v16 => if v16 = 0 then ( some ((-1000000002), h)) else (bd (K_M_isNone h) <| fun v26 => if v26 = 0 then (nm (hset h 100 12 0) <| fun h37 => bd (loopN (fun z_ : Int32 × Hp => K_M_round_L42 N a0 b0 z_.1 z_.2) N (0, h37)) <| fun t42 => bd (K_M_stateNow t42) <| fun v69 => nm (((16 * v69) + a0)) <| fun v75 => bd (loopN (fun z_ : Int32 × Int32 × Hp => K_M_round_L79 N b0 z_.1 z_.2.1 z_.2.2) N (v75, 0, t42)) <| fun t79 =>  if b0 = 0 then (gA 55296 (t79.2.2 109) t79.1 <| fun v117 => some (v117, t79.2.2)) else (gA 55296 (t79.2.2 109) t79.1 <| fun v128 => some ((t79.2.1 - v128), t79.2.2))) else ( some ((-1000000003), h))))
def K_M_openWater_L20 (N : Nat) (x1 : Int32) (x2 : Int32) (x3 : Int32) (x4 : Int32) (h : Hp) : Option ((Int32 × Int32 × Hp) ⊕ (Hp)) :=
   if x2 ≤ x4 then ( some (.inr h)) else (dz x1 <| nm ((rm32 (x4 / x1) 2)) <| fun v32 => bd (K_M_turnBy v32 v32 h) <| fun v40 => nm ((rm32 ((x3 + (rm32 v40 8)) + 8) 8)) <| fun v53 => bd (K_M_pushBy v32 v32 h) <| fun v59 => bd (K_M_east v53) <| fun v72 => nm (hset h 100 22 ((h 100 22) + (v59 * v72))) <| fun h77 => bd (K_M_north v53) <| fun v88 => nm (hset h77 100 23 ((h77 100 23) + (v59 * v88))) <| fun h93 => nm (x4 + 1) <| fun v96 => some (.inl (v53, v96, h93)))
def K_M_openWater (N : Nat) (a0 : Int32) (b0 : Int32) (h : Hp) : Option (Hp) :=
  nm (hset h 100 12 0) <| fun h2 => nm (hset h2 100 22 0) <| fun h7 => nm (hset h7 100 23 0) <| fun h12 => bd (loopN (fun z_ : Int32 × Int32 × Hp => K_M_openWater_L20 N a0 b0 z_.1 z_.2.1 z_.2.2) N (0, 0, h12)) <| fun t20 =>  some t20
def K_M_off (N : Nat) (a0 : Int32) (b0 : Int32) (c0 : Int32) (h : Hp) : Option (Int32 × Hp) :=
  bd (K_M_in (Int32.toInt64 a0) 1 99) <| fun v6 => if v6 = 0 then ( some ((-1000000002), h)) else (bd (K_M_in (Int32.toInt64 b0) 1 99) <| fun v18 => if v18 = 0 then ( some ((-1000000002), h)) else (bd (K_M_in (Int32.toInt64 c0) 0 1) <| fun v28 => if v28 = 0 then ( some ((-1000000002), h)) else (bd (K_M_openWater N a0 b0 h) <| fun h40 => if c0 = 0 then ( some ((h40 100 22), h40)) else ( some ((h40 100 23), h40)))))
def K_M_best_J84 (N : Nat) (x1 : Int32) (x5 : Int32) (x6 : Int32) (h : Hp) : Option ((Int32 × Int32 × Int32 × Int32 × Hp) ⊕ (Int32 × Hp)) :=
  nm ((h 100 23)) <| fun v94 => nm (x5 + 1) <| fun v96 => some (.inl (x5, x6, v94, v96, h))
def K_M_best_J61 (N : Nat) (x1 : Int32) (x2 : Int32) (x3 : Int32) (x4 : Int32) (x5 : Int32) (y0 : Int32) (h : Hp) : Option ((Int32 × Int32 × Int32 × Int32 × Hp) ⊕ (Int32 × Hp)) :=
   if y0 < x3 then ( K_M_best_J84 N x1 x5 y0 h) else ( if y0 = x3 then ( if (h 100 23) ≤ x4 then (nm (x5 + 1) <| fun v96 => some (.inl (x2, x3, x4, v96, h))) else ( K_M_best_J84 N x1 x5 y0 h)) else (nm (x5 + 1) <| fun v96 => some (.inl (x2, x3, x4, v96, h))))
def K_M_best_L28 (N : Nat) (x1 : Int32) (x2 : Int32) (x3 : Int32) (x4 : Int32) (x5 : Int32) (h : Hp) : Option ((Int32 × Int32 × Int32 × Int32 × Hp) ⊕ (Int32 × Hp)) :=
   if 10 ≤ x5 then ( some (.inr (x2, h))) else (bd (K_M_openWater N x5 x1 h) <| fun h39 => if 0 ≤ (h39 100 22) then ( K_M_best_J61 N x1 x2 x3 x4 x5 (h39 100 22) h39) else ( K_M_best_J61 N x1 x2 x3 x4 x5 (-(h39 100 22)) h39))
def K_M_best (N : Nat) (a0 : Int32) (h : Hp) : Option (Int32 × Hp) :=
  bd (K_M_in (Int32.toInt64 a0) 1 99) <| fun v6 => if v6 = 0 then ( some ((-1000000002), h)) else (bd (loopN (fun z_ : Int32 × Int32 × Int32 × Int32 × Hp => K_M_best_L28 N a0 z_.1 z_.2.1 z_.2.2.1 z_.2.2.2.1 z_.2.2.2.2) N (0, 99999999, (-99999999), 1, h)) <| fun t28 =>  some (t28.1, t28.2))
def K_M_stateBy_L10 (N : Nat) (x1 : Int32) (x3 : Int32) (x4 : Int32) (h : Hp) : Option ((Int32 × Int32 × Hp) ⊕ (Int32 × Hp)) :=
   if x4 < 0 then ( some (.inr (x3, h))) else (nm (((x1 >>> ((4 * x4) &&& 31)) &&& 15)) <| fun v24 => bd2 (K_M_after N x3 (v24 / 4) (rm32 v24 4) h) <| fun v36 h36 => nm (x4 + (-1)) <| fun v40 => some (.inl (v36, v40, h36)))
def K_M_stateBy (N : Nat) (a0 : Int32) (b0 : Int32) (h : Hp) : Option (Int32 × Hp) :=
  bd (K_M_stateNow h) <| fun v1 => nm ((b0 - 1)) <| fun v8 => bd (loopN (fun z_ : Int32 × Int32 × Hp => K_M_stateBy_L10 N a0 z_.1 z_.2.1 z_.2.2) N (v1, v8, h)) <| fun t10 =>  some (t10.1, t10.2)
def K_M_still_L42 (N : Nat) (x1 : Int32) (x2 : Int32) (x3 : Int32) (x4 : Int32) (h : Hp) : Option ((Int32 × Hp) ⊕ (Int32 × Hp) ⊕ (Hp)) :=
   if (1 <<< ((4 * x3) &&& 31)) ≤ x4 then ( some (.inr (.inr h))) else (bd2 (K_M_stateBy N x4 x3 h) <| fun v56 h56 => bd (K_M_times h56) <| fun v60 => dz v60 <| if (v56 / v60) = x2 then ( if x1 = (-1) then ( some (.inr (.inl (x3, h56)))) else (bd (K_M_in (Int32.toInt64 x1) 0 (Int32.toInt64 (x3 - 1))) <| fun v84 => if v84 = 0 then ( some (.inr (.inl ((-1), h56)))) else ( some (.inr (.inl (((x4 >>> ((4 * ((x3 - 1) - x1)) &&& 31)) &&& 15), h56)))))) else (nm (x4 + 1) <| fun v108 => some (.inl (v108, h56))))
def K_M_still_L34 (N : Nat) (x1 : Int32) (x2 : Int32) (x3 : Int32) (h : Hp) : Option ((Int32 × Hp) ⊕ (Int32 × Hp) ⊕ (Hp)) :=
   if 4 ≤ x3 then ( some (.inr (.inr h))) else (bd (loopN (fun z_ : Int32 × Hp => K_M_still_L42 N x1 x2 x3 z_.1 z_.2) N (0, h)) <| fun t42 => el t42 (fun r_ => some (.inr (.inl r_))) (fun t42x => nm (x3 + 1) <| fun v114 => some (.inl (v114, t42x))))
def K_M_still (N : Nat) (a0 : Int32) (h : Hp) : Option (Int32 × Hp) :=
  bd (K_M_isNone h) <| fun v1 => if v1 = 0 then (nm (hset h 100 12 0) <| fun h12 => gA 12 (h12 101) 0 <| fun v22 => gA 12 (h12 101) 1 <| fun v29 => nm (((8 * v22) + v29)) <| fun v31 => bd (loopN (fun z_ : Int32 × Hp => K_M_still_L34 N a0 v31 z_.1 z_.2) N (1, h12)) <| fun t34 => el t34 (fun r_ => some r_) (fun t34x =>  some ((-1), t34x))) else ( some ((-1000000003), h))
def K_M_worst (N : Nat) (a0 : Int32) (b0 : Int32) (c0 : Int32) (h : Hp) : Option (Int32 × Hp) :=
  bd (K_M_strokeFrom N (a0 / 8) (rm32 a0 8) b0 c0 h) <| fun h11 => gA 384 (h11 111) ((8 * (h11 100 13)) + (h11 100 14)) <| fun v30 => gA 24 (h11 104) 10 <| fun v50 => bd (K_M_driven (h11 100 13) v50 h11) <| fun v51 => gA 384 (h11 111) ((8 * v51) + (h11 100 14)) <| fun v60 => if v30 ≤ v60 then ( some (v60, h11)) else ( some (v30, h11))
def K_M_leastWorst_J36 (N : Nat) (x1 : Int32) (x3 : Int32) (y0 : Int32) (h : Hp) : Option ((Int32 × Int32 × Hp) ⊕ (Int32 × Hp)) :=
  nm (x3 + 1) <| fun v37 => some (.inl (y0, v37, h))
def K_M_leastWorst_L5 (N : Nat) (x1 : Int32) (x2 : Int32) (x3 : Int32) (h : Hp) : Option ((Int32 × Int32 × Hp) ⊕ (Int32 × Hp)) :=
   if 16 ≤ x3 then ( some (.inr (x2, h))) else (bd2 (K_M_worst N x1 (x3 / 4) (rm32 x3 4) h) <| fun v19 h19 => if x2 ≤ v19 then ( K_M_leastWorst_J36 N x1 x3 x2 h19) else ( K_M_leastWorst_J36 N x1 x3 v19 h19))
def K_M_leastWorst (N : Nat) (a0 : Int32) (h : Hp) : Option (Int32 × Hp) :=
  bd (loopN (fun z_ : Int32 × Int32 × Hp => K_M_leastWorst_L5 N a0 z_.1 z_.2.1 z_.2.2) N (99999999, 0, h)) <| fun t5 =>  some (t5.1, t5.2)
def K_M_findSure_J47 (N : Nat) (x1 : Int32) (x2 : Int32) (y1 : Int32) (y2 : Int32) (h : Hp) : Option ((Int32 × Hp) ⊕ (Hp)) :=
  sA 384 y1 <| nm (hset h 111 (Int32.toNatClampNeg y1) y2) <| fun h47 => nm (x2 + 1) <| fun v48 => some (.inl (v48, h47))
def K_M_findSure_L16 (N : Nat) (x1 : Int32) (x2 : Int32) (h : Hp) : Option ((Int32 × Hp) ⊕ (Hp)) :=
   if x1 ≤ x2 then ( some (.inr h)) else (bd (K_M_isGoal (x2 / 8) (rm32 x2 8) h) <| fun v35 => if v35 = 0 then ( K_M_findSure_J47 N x1 x2 x2 99999999 h) else ( K_M_findSure_J47 N x1 x2 x2 0 h))
def K_M_findSure_J131 (N : Nat) (x1 : Int32) (x2 : Int32) (x3 : Int32) (y1 : Int32) (y2 : Int32) (h : Hp) : Option ((Int32 × Hp) ⊕ (Hp)) :=
  sA 384 y1 <| nm (hset h 111 (Int32.toNatClampNeg y1) y2) <| fun h131 => nm (x3 + 1) <| fun v132 => some (.inl (v132, h131))
def K_M_findSure_J125 (N : Nat) (x1 : Int32) (x2 : Int32) (x3 : Int32) (y1 : Int32) (h : Hp) : Option ((Int32 × Hp) ⊕ (Hp)) :=
  gA 384 (h 111) x3 <| fun v130 => K_M_findSure_J131 N x1 x2 x3 y1 v130 h
def K_M_findSure_J98 (N : Nat) (x1 : Int32) (x2 : Int32) (x3 : Int32) (y0 : Int32) (h : Hp) : Option ((Int32 × Hp) ⊕ (Hp)) :=
   if y0 = 0 then ( K_M_findSure_J125 N x1 x2 x3 x3 h) else (bd2 (K_M_leastWorst N x3 h) <| fun v112 h112 => if v112 = (x2 - 1) then ( K_M_findSure_J131 N x1 x2 x3 x3 x2 h112) else ( K_M_findSure_J125 N x1 x2 x3 x3 h112))
def K_M_findSure_J97 (N : Nat) (x1 : Int32) (x2 : Int32) (x3 : Int32) (h : Hp) : Option ((Int32 × Hp) ⊕ (Hp)) :=
   K_M_findSure_J98 N x1 x2 x3 0 h
def K_M_findSure_L64 (N : Nat) (x1 : Int32) (x2 : Int32) (x3 : Int32) (h : Hp) : Option ((Int32 × Hp) ⊕ (Hp)) :=
   if x1 ≤ x3 then ( some (.inr h)) else (gA 384 (h 111) x3 <| fun v74 => if v74 = 99999999 then (gA 96 (h 103) (x3 / 8) <| fun v88 => if v88 = 1 then ( K_M_findSure_J97 N x1 x2 x3 h) else ( K_M_findSure_J98 N x1 x2 x3 1 h)) else ( K_M_findSure_J97 N x1 x2 x3 h))
def K_M_findSure_L56 (N : Nat) (x1 : Int32) (x2 : Int32) (h : Hp) : Option ((Int32 × Hp) ⊕ (Hp)) :=
   if 30 < x2 then ( some (.inr h)) else (bd (loopN (fun z_ : Int32 × Hp => K_M_findSure_L64 N x1 x2 z_.1 z_.2) N (0, h)) <| fun t64 => nm (x2 + 1) <| fun v138 => some (.inl (v138, t64)))
def K_M_findSure (N : Nat) (h : Hp) : Option (Hp) :=
  nm (hset h 100 12 0) <| fun h2 => bd (K_M_squares 0 h2) <| fun v9 => nm ((8 * v9)) <| fun v13 => bd (loopN (fun z_ : Int32 × Hp => K_M_findSure_L16 N v13 z_.1 z_.2) N (0, h2)) <| fun t16 => bd (loopN (fun z_ : Int32 × Hp => K_M_findSure_L56 N v13 z_.1 z_.2) N (1, t16)) <| fun t56 =>  some t56
def K_M_surely_J88 (N : Nat) (h : Hp) : Option (Int32 × Hp) :=
   some ((-1), h)
def K_M_surely_J77 (N : Nat) (x1 : Int32) (x3 : Int32) (h : Hp) : Option (Int32 × Hp) :=
   if x3 = 99999999 then ( K_M_surely_J88 N h) else ( if x1 = 1 then ( K_M_surely_J88 N h) else ( some (x3, h)))
def K_M_surely_L97 (N : Nat) (x2 : Int32) (x3 : Int32) (x4 : Int32) (h : Hp) : Option ((Int32 × Hp) ⊕ (Int32 × Hp)) :=
  bd2 (K_M_worst N x2 (x4 / 4) (rm32 x4 4) h) <| fun v107 h107 => if v107 = (x3 - 1) then ( some (.inr (x4, h107))) else (nm (x4 + 1) <| fun v116 => some (.inl (v116, h107)))
def K_M_surely (N : Nat) (a0 : Int32) (h : Hp) : Option (Int32 × Hp) :=
  bd (K_M_in (Int32.toInt64 a0) 0 1) <| fun v4 => if v4 = 0 then ( some ((-1000000002), h)) else (bd (K_M_isNone h) <| fun v14 => if v14 = 0 then (gA 24 (h 104) 10 <| fun v29 => if 0 ≤ v29 then (bd (K_M_findSure N h) <| fun h36 => gA 12 (h36 101) 0 <| fun v46 => gA 12 (h36 101) 1 <| fun v53 => nm (((8 * v46) + v53)) <| fun v55 => gA 384 (h36 111) v55 <| fun v61 => if a0 = 0 then ( K_M_surely_J77 N a0 v61 h36) else ( if v61 = 99999999 then ( K_M_surely_J77 N a0 v61 h36) else ( if v61 = 0 then ( K_M_surely_J77 N a0 v61 h36) else (bd (loopN (fun z_ : Int32 × Hp => K_M_surely_L97 N v55 v61 z_.1 z_.2) N (0, h36)) <| fun t97 =>  some (t97.1, t97.2))))) else ( some ((-1), h))) else ( some ((-1000000003), h)))
def K_M_byRule_J19 (x1 : Int32) : Option (Int32) :=
   some x1
def K_M_byRule (a0 : Int32) (b0 : Int32) : Option (Int32) :=
   if 2 ≤ a0 then ( if a0 = 2 then ( K_M_byRule_J19 b0) else ( if b0 ≤ 1 then ( some (1 - b0)) else ( K_M_byRule_J19 b0))) else ( some a0)
def K_M_strokesBy_L14 (N : Nat) (x1 : Int32) (x2 : Int32) (x3 : Int32) (x4 : Int32) (x5 : Int32) (x6 : Int32) (h : Hp) : Option ((Int32 × Int32 × Int32 × Int32 × Hp) ⊕ (Int32 × Hp) ⊕ (Hp)) :=
   if 60 < x6 then ( some (.inr (.inr h))) else (bd (K_M_isGoalState x3 h) <| fun v23 => if v23 = 0 then (bd2 (K_M_after N x3 x4 x5 h) <| fun v38 h38 => bd (K_M_byRule x1 x5) <| fun v45 => bd (K_M_byRule x2 x4) <| fun v53 => nm (x6 + 1) <| fun v62 => some (.inl (v38, v45, v53, v62, h38))) else ( some (.inr (.inl (x6, h)))))
def K_M_strokesBy (N : Nat) (a0 : Int32) (b0 : Int32) (h : Hp) : Option (Int32 × Hp) :=
  bd (K_M_stateNow h) <| fun v1 => bd (loopN (fun z_ : Int32 × Int32 × Int32 × Int32 × Hp => K_M_strokesBy_L14 N a0 b0 z_.1 z_.2.1 z_.2.2.1 z_.2.2.2.1 z_.2.2.2.2) N (v1, 0, 0, 0, h)) <| fun t14 => el t14 (fun r_ => some r_) (fun t14x =>  some (99999999, t14x))
def K_M_rules_L38 (N : Nat) (x1 : Int32) (x2 : Int32) (x3 : Int32) (x4 : Int32) (h : Hp) : Option ((Int32 × Int32 × Int32 × Hp) ⊕ (Int32 × Int32 × Hp)) :=
   if 16 ≤ x4 then ( some (.inr (x2, x3, h))) else (bd2 (K_M_strokesBy N (x4 / 4) (rm32 x4 4) h) <| fun v54 h54 => if x3 ≤ v54 then (nm (x4 + 1) <| fun v71 => some (.inl (x2, x3, v71, h54))) else (nm (x4 + 1) <| fun v71 => some (.inl (x4, v54, v71, h54))))
def K_M_rules (N : Nat) (a0 : Int32) (h : Hp) : Option (Int32 × Hp) :=
  bd (K_M_in (Int32.toInt64 a0) 0 2) <| fun v6 => if v6 = 0 then ( some ((-1000000002), h)) else (bd (K_M_isNone h) <| fun v16 => if v16 = 0 then (nm (hset h 100 12 0) <| fun h27 => bd (loopN (fun z_ : Int32 × Int32 × Int32 × Hp => K_M_rules_L38 N a0 z_.1 z_.2.1 z_.2.2.1 z_.2.2.2) N (0, 99999999, 0, h27)) <| fun t38 =>  if t38.2.1 = 99999999 then ( some ((-1), t38.2.2)) else ( if a0 = 0 then ( some (t38.2.1, t38.2.2)) else ( if a0 = 1 then ( some ((t38.1 / 4), t38.2.2)) else ( some ((rm32 t38.1 4), t38.2.2))))) else ( some ((-1000000003), h)))
def K_M_line (a0 : Int32) (b0 : Int32) (h : Hp) : Option (Int32 × Hp) :=
  bd (K_M_isSquare a0 b0 h) <| fun v3 => if v3 = 0 then ( some ((-1000000001), h)) else ( if (h 100 26) = 4 then ( some ((-1000000004), h)) else (gA 24 (h 104) 0 <| fun v37 => sA 4 (h 100 26) <| nm (hset h 112 (Int32.toNatClampNeg (h 100 26)) ((b0 * v37) + a0)) <| fun h41 => nm (hset h41 100 26 ((h41 100 26) + 1)) <| fun h49 => some ((h49 100 26), h49)))
def K_M_fitsRow_J79 (N : Nat) (x1 : Int32) (x2 : Int32) (x4 : Int32) (y0 : Int32) (h : Hp) : Option ((Int32 × Int32 × Int32 × Hp) ⊕ (Int32 × Hp)) :=
  nm (x4 + 1) <| fun v80 => some (.inl (x2, y0, v80, h))
def K_M_fitsRow_L10 (N : Nat) (x1 : Int32) (x2 : Int32) (x3 : Int32) (x4 : Int32) (h : Hp) : Option ((Int32 × Int32 × Int32 × Hp) ⊕ (Int32 × Hp)) :=
   if (h 100 26) ≤ x4 then ( some (.inr (x3, h))) else ( if x3 = 0 then ( some (.inr (x3, h))) else (nm (((x1 >>> ((4 * (((h 100 26) - 1) - x4)) &&& 31)) &&& 15)) <| fun v39 => bd2 (K_M_after N x2 (v39 / 4) (rm32 v39 4) h) <| fun v51 h51 => bd (K_M_times h51) <| fun v57 => dz v57 <| gA 4 (h51 112) x4 <| fun v70 => if ((v51 / v57) / 8) = v70 then ( K_M_fitsRow_J79 N x1 v51 x4 1 h51) else ( K_M_fitsRow_J79 N x1 v51 x4 0 h51)))
def K_M_fitsRow (N : Nat) (a0 : Int32) (h : Hp) : Option (Int32 × Hp) :=
  bd (K_M_stateNow h) <| fun v1 => bd (loopN (fun z_ : Int32 × Int32 × Int32 × Hp => K_M_fitsRow_L10 N a0 z_.1 z_.2.1 z_.2.2.1 z_.2.2.2) N (v1, 1, 0, h)) <| fun t10 => bz t10.1 <| some (t10.1, t10.2)
def K_M_findFits_J171 (N : Nat) (x1 : Int32) (x2 : Int32) (y1 : Int32) (y2 : Int32) (y3 : Int32) (h : Hp) : Option ((Int32 × Hp) ⊕ (Hp)) :=
  sA 2 y1 <| nm (hset h 113 (Int32.toNatClampNeg y1) (y2 &&& y3)) <| fun h172 => nm (x2 + 1) <| fun v173 => some (.inl (v173, h172))
def K_M_findFits_J141 (N : Nat) (x1 : Int32) (x2 : Int32) (x3 : Int32) (y1 : Int32) (y2 : Int32) (y3 : Int32) (h : Hp) : Option ((Int32 × Hp) ⊕ (Hp)) :=
  sA 2 y1 <| nm (hset h 113 (Int32.toNatClampNeg y1) (y2 &&& y3)) <| fun h142 => gA 2 (h142 113) 1 <| fun v149 => if (rm32 x3 4) = 3 then (gA 2 (h142 113) 1 <| fun v162 => K_M_findFits_J171 N x1 x2 1 v149 v162 h142) else ( K_M_findFits_J171 N x1 x2 1 v149 ((1 <<< (x2 &&& 31)) ^^^ (-1)) h142)
def K_M_findFits_L89 (N : Nat) (x1 : Int32) (x2 : Int32) (h : Hp) : Option ((Int32 × Hp) ⊕ (Hp)) :=
   if (h 100 26) ≤ x2 then ( some (.inr h)) else (nm (((x1 >>> ((4 * (((h 100 26) - 1) - x2)) &&& 31)) &&& 15)) <| fun v112 => gA 2 (h 113) 0 <| fun v119 => if (v112 / 4) = 3 then (gA 2 (h 113) 0 <| fun v132 => K_M_findFits_J141 N x1 x2 v112 0 v119 v132 h) else ( K_M_findFits_J141 N x1 x2 v112 0 v119 ((1 <<< (x2 &&& 31)) ^^^ (-1)) h))
def K_M_findFits_J74 (N : Nat) (x1 : Int32) (y1 : Int32) (h : Hp) : Option ((Int32 × Hp) ⊕ (Hp)) :=
  nm (hset h 100 28 y1) <| fun h74 => nm (hset h74 100 27 ((h74 100 27) + 1)) <| fun h84 => bd (loopN (fun z_ : Int32 × Hp => K_M_findFits_L89 N x1 z_.1 z_.2) N (0, h84)) <| fun t89 => nm (x1 + 1) <| fun v179 => some (.inl (v179, t89))
def K_M_findFits_L38 (N : Nat) (x1 : Int32) (h : Hp) : Option ((Int32 × Hp) ⊕ (Hp)) :=
   if (1 <<< ((4 * (h 100 26)) &&& 31)) ≤ x1 then ( some (.inr h)) else (bd2 (K_M_fitsRow N x1 h) <| fun v52 h52 => if v52 = 0 then (nm (x1 + 1) <| fun v179 => some (.inl (v179, h52))) else ( if (h52 100 27) = 0 then ( K_M_findFits_J74 N x1 x1 h52) else ( K_M_findFits_J74 N x1 (h52 100 28) h52)))
def K_M_findFits (N : Nat) (h : Hp) : Option (Hp) :=
  nm (hset h 100 12 0) <| fun h2 => nm (hset h2 100 27 0) <| fun h7 => sA 2 0 <| nm (hset h7 113 (Int32.toNatClampNeg 0) ((1 <<< ((h7 100 26) &&& 31)) - 1)) <| fun h23 => gA 2 (h23 113) 0 <| fun v34 => sA 2 1 <| nm (hset h23 113 (Int32.toNatClampNeg 1) v34) <| fun h35 => bd (loopN (fun z_ : Int32 × Hp => K_M_findFits_L38 N z_.1 z_.2) N (0, h35)) <| fun t38 =>  some t38
def K_M_fits (N : Nat) (a0 : Int32) (h : Hp) : Option (Int32 × Hp) :=
  bd (K_M_isNone h) <| fun v1 => if v1 = 0 then (bd (K_M_findFits N h) <| fun h11 => if a0 = (-1) then ( some ((h11 100 27), h11)) else ( if (h11 100 27) ≤ 0 then ( some ((-1), h11)) else (bd (K_M_in (Int32.toInt64 a0) 0 (Int32.toInt64 ((h11 100 26) - 1))) <| fun v43 => if v43 = 0 then ( some ((-1), h11)) else ( some ((((h11 100 28) >>> ((4 * (((h11 100 26) - 1) - a0)) &&& 31)) &&& 15), h11))))) else ( some ((-1000000003), h))
def K_M_gave (N : Nat) (a0 : Int32) (h : Hp) : Option (Int32 × Hp) :=
  bd (K_M_in (Int32.toInt64 a0) 0 1) <| fun v4 => if v4 = 0 then ( some ((-1000000002), h)) else (bd (K_M_isNone h) <| fun v14 => if v14 = 0 then (bd (K_M_findFits N h) <| fun h24 => if (h24 100 27) = 0 then ( some (0, h24)) else (gA 2 (h24 113) a0 <| fun v43 => some (v43, h24))) else ( some ((-1000000003), h)))
def K_M_write (a0 : Int32) (b0 : Int32) (c0 : Int32) (h : Hp) : Option (Int32 × Hp) :=
  bd (K_M_isSquare b0 c0 h) <| fun v3 => if v3 = 0 then ( some ((-1000000001), h)) else (bd (K_M_in (Int32.toInt64 a0) 0 15) <| fun v18 => if v18 = 0 then ( some ((-1000000002), h)) else ( if (h 100 32) = 20 then ( some ((-1000000004), h)) else (sA 20 (h 100 32) <| nm (hset h 114 (Int32.toNatClampNeg (h 100 32)) a0) <| fun h48 => gA 24 (h48 104) 0 <| fun v63 => sA 20 (h48 100 32) <| nm (hset h48 115 (Int32.toNatClampNeg (h48 100 32)) ((c0 * v63) + b0)) <| fun h67 => nm (hset h67 100 32 ((h67 100 32) + 1)) <| fun h75 => some ((h75 100 32), h75))))
def K_M_judge_L22 (N : Nat) (x1 : Int32) (x2 : Int32) (h : Hp) : Option ((Int32 × Int32 × Hp) ⊕ (Int32 × Hp) ⊕ (Hp)) :=
   if (h 100 32) ≤ x2 then ( some (.inr (.inr h))) else (gA 20 (h 114) x2 <| fun v37 => gA 20 (h 114) x2 <| fun v45 => bd2 (K_M_after N x1 (v37 / 4) (rm32 v45 4) h) <| fun v48 h48 => bd (K_M_times h48) <| fun v54 => dz v54 <| gA 20 (h48 115) x2 <| fun v66 => if ((v48 / v54) / 8) = v66 then (nm (x2 + 1) <| fun v72 => some (.inl (v48, v72, h48))) else ( some (.inr (.inl (x2, h48)))))
def K_M_judge (N : Nat) (h : Hp) : Option (Int32 × Hp) :=
  bd (K_M_isNone h) <| fun v1 => if v1 = 0 then (nm (hset h 100 12 0) <| fun h12 => bd (K_M_stateNow h12) <| fun v16 => bd (loopN (fun z_ : Int32 × Int32 × Hp => K_M_judge_L22 N z_.1 z_.2.1 z_.2.2) N (v16, 0, h12)) <| fun t22 => el t22 (fun r_ => some r_) (fun t22x =>  some ((-1), t22x))) else ( some ((-1000000003), h))
def K_M_tear (h : Hp) : Option (Int32 × Hp) :=
  nm (((h 100 26) + (h 100 32))) <| fun v9 => nm (hset h 100 26 0) <| fun h12 => nm (hset h12 100 32 0) <| fun h17 => some (v9, h17)
def K_M_seed (a0 : Int32) (h : Hp) : Option (Int32 × Hp) :=
   if 0 ≤ a0 then (gA 12 (h 101) 3 <| fun v12 => sA 12 3 <| nm (hset h 101 (Int32.toNatClampNeg 3) a0) <| fun h20 => some (v12, h20)) else ( some ((-1000000002), h))
def K_M_copy_L2 (N : Nat) (x1 : Int32) (x2 : Int32) (x3 : Int32) (h : Hp) : Option ((Int32 × Hp) ⊕ (Hp)) :=
   if 4 ≤ x3 then ( some (.inr h)) else (gA 12 (h 101) (x1 + x3) <| fun v21 => sA 12 (x2 + x3) <| nm (hset h 101 (Int32.toNatClampNeg (x2 + x3)) v21) <| fun h22 => nm (x3 + 1) <| fun v23 => some (.inl (v23, h22)))
def K_M_copy (N : Nat) (a0 : Int32) (b0 : Int32) (h : Hp) : Option (Hp) :=
  bd (loopN (fun z_ : Int32 × Hp => K_M_copy_L2 N a0 b0 z_.1 z_.2) N (0, h)) <| fun t2 =>  some t2
def K_M_keep (N : Nat) (a0 : Int32) (h : Hp) : Option (Int32 × Hp) :=
  bd (K_M_in (Int32.toInt64 a0) 0 1) <| fun v4 => if v4 = 0 then ( some ((-1000000001), h)) else (bd (K_M_copy N 0 (4 + (4 * a0)) h) <| fun h20 => sA 2 a0 <| nm (hset h20 102 (Int32.toNatClampNeg a0) 1) <| fun h29 => nm (hset h29 100 16 0) <| fun h32 => some (1, h32))
def K_M_goBack (N : Nat) (a0 : Int32) (h : Hp) : Option (Int32 × Hp) :=
  bd (K_M_in (Int32.toInt64 a0) 0 1) <| fun v4 => if v4 = 0 then ( some ((-1000000001), h)) else (gA 2 (h 102) a0 <| fun v18 => if v18 = 0 then ( some ((-1000000003), h)) else (bd (K_M_copy N (4 + (4 * a0)) 0 h) <| fun h32 => nm (hset h32 100 16 0) <| fun h37 => some (1, h37)))
def K_Boat_draw (a0 : Int32) (h : Hp) : Option (Int32 × Hp) :=
  nm (hset h 30 2 (Int64.toInt32 ((((Int32.toInt64 (h 30 2)) * 1103515245) + 12345) &&& 2147483647))) <| fun h19 => if a0 ≤ 0 then ( some (0, h19)) else (dz a0 <| some ((rm32 ((h19 30 2) / 65536) a0), h19))
def K_Calling_forget (h : Hp) : Option (Hp) :=
  nm (hset h 45 8 (-1)) <| fun h2 => some h2
def K_River_isGoal_J39 (h : Hp) : Option (Int32) :=
   some 1
def K_River_isGoal (a0 : Int32) (h : Hp) : Option (Int32) :=
   if (h 10 8) = (-1) then ( some 0) else ( if (a0 / 8) = (h 10 8) then ( if (h 10 9) = 8 then ( K_River_isGoal_J39 h) else ( if (rm32 a0 8) = (h 10 9) then ( K_River_isGoal_J39 h) else ( some 0))) else ( some 0))
def K_Crew_turnOf (a0 : Int32) (h : Hp) : Option (Int32) :=
   if a0 < 0 then ( some 0) else ( if 16 ≤ a0 then ( some 0) else (gA 16 (h 21) a0 <| fun v18 => some v18))
def K_Crew_pushOf (a0 : Int32) (h : Hp) : Option (Int32) :=
   if a0 < 0 then ( some 0) else ( if 16 ≤ a0 then ( some 0) else (gA 16 (h 22) a0 <| fun v18 => some v18))
def K_Waters_calm (a0 : Int32) (b0 : Int32) (c0 : Int32) (h : Hp) : Option (Int32) :=
  nm (((a0 + b0) &&& 7)) <| fun v6 => nm ((((a0 / 8) * 8) + v6)) <| fun v18 => nm ((((v18 * 5) + c0) + 2)) <| fun v28 => if v28 < 0 then ( some a0) else ( if 1920 ≤ v28 then ( some a0) else (gA 1920 (h 16) v28 <| fun v51 => some ((v51 * 8) + v6)))
def K_Waters_gust (a0 : Int32) (h : Hp) : Option (Int32) :=
  nm ((a0 / 8)) <| fun v4 => if v4 < 0 then ( some a0) else ( if 48 ≤ v4 then ( some a0) else (gA 48 (h 17) v4 <| fun v23 => some ((v23 * 8) + (rm32 a0 8))))
def K_Waters_after (a0 : Int32) (b0 : Int32) (c0 : Int32) (h : Hp) : Option (Int32) :=
  nm (((a0 / 384) + 1)) <| fun v7 => bd (K_Waters_calm (rm32 a0 384) b0 c0 h) <| fun v17 => if (h 15 2) ≤ v7 then (bd (K_Waters_gust v17 h) <| fun v46 => some v46) else ( some ((v7 * 384) + v17))
def K_Crew_after (a0 : Int32) (b0 : Int32) (h : Hp) : Option (Int32) :=
  bd (K_Crew_turnOf b0 h) <| fun v7 => bd (K_Crew_pushOf b0 h) <| fun v12 => bd (K_Waters_after a0 v7 v12 h) <| fun v15 => some v15
def K_Calling_goOn_L9 (N : Nat) (x5 : Int32) (x6 : Int32) (x7 : Int32) (h : Hp) : Option ((Int32 × Int32 × Hp) ⊕ (Hp) ⊕ (Hp)) :=
   if 60 < x7 then ( some (.inr (.inr h))) else (bd (K_Crew_after x6 x5 h) <| fun v21 => nm ((((((h 45 4) * 64) + 64) - 1) - x7)) <| fun v41 => if v21 < 0 then ( some (.inr (.inl h))) else ( if 3456 ≤ v21 then ( some (.inr (.inl h))) else (gA 3456 (h 46) v21 <| fun v62 => if v62 ≤ x7 then ( some (.inr (.inl h))) else (gA 3456 (h 48) v21 <| fun v74 => if v74 < v41 then (sA 3456 v21 <| nm (hset h 48 (Int32.toNatClampNeg v21) v41) <| fun h89 => gA 3456 (h89 47) v21 <| fun v102 => sA 3456 v21 <| nm (hset h89 47 (Int32.toNatClampNeg v21) (if x7 < v102 then x7 else v102)) <| fun h108 => if (h108 45 5) ≤ x7 then (nm (x7 + 1) <| fun v137 => some (.inl (v21, v137, h108))) else (bd (K_River_isGoal (rm32 v21 384) h108) <| fun v125 => if v125 = 0 then (nm (x7 + 1) <| fun v137 => some (.inl (v21, v137, h108))) else (nm (hset h108 45 5 x7) <| fun h134 => nm (x7 + 1) <| fun v137 => some (.inl (v21, v137, h134))))) else ( some (.inr (.inl h)))))))
def K_Calling_goOn (N : Nat) (c0 : Int32) (d0 : Int32) (e0 : Int32) (h : Hp) : Option (Hp) :=
  nm ((d0 + 1)) <| fun v7 => bd (loopN (fun z_ : Int32 × Int32 × Hp => K_Calling_goOn_L9 N e0 z_.1 z_.2.1 z_.2.2) N (c0, v7, h)) <| fun t9 => el t9 (fun r_ => some r_) (fun t9x =>  some t9x)
def K_Calling_gatherSources_L4 (N : Nat) (x1 : Int32) (x2 : Int32) (h : Hp) : Option ((Int32 × Int32 × Hp) ⊕ (Int32 × Hp)) :=
   if 3456 ≤ x2 then ( some (.inr (x1, h))) else ( if 3456 ≤ x2 then ( some (.inr (x1, h))) else (gA 3456 (h 47) x2 <| fun v27 => gA 3456 (h 46) x2 <| fun v33 => if v33 ≤ v27 then (nm (x2 + 1) <| fun v68 => some (.inl (x1, v68, h))) else ( if 3456 ≤ x1 then (nm (x2 + 1) <| fun v68 => some (.inl (x1, v68, h))) else (gA 3456 (h 47) x2 <| fun v56 => sA 3456 x2 <| nm (hset h 46 (Int32.toNatClampNeg x2) v56) <| fun h57 => sA 3456 x1 <| nm (hset h57 49 (Int32.toNatClampNeg x1) x2) <| fun h64 => nm (x1 + 1) <| fun v65 => nm (x2 + 1) <| fun v68 => some (.inl (v65, v68, h64))))))
def K_Calling_gatherSources (N : Nat) (h : Hp) : Option (Int32 × Hp) :=
  bd (loopN (fun z_ : Int32 × Int32 × Hp => K_Calling_gatherSources_L4 N z_.1 z_.2.1 z_.2.2) N (0, 0, h)) <| fun t4 =>  some (t4.1, t4.2)
def K_Calling_strokesTo (a0 : Int32) (h : Hp) : Option (Int32) :=
   if a0 < 0 then ( some 99) else ( if 3456 ≤ a0 then ( some 99) else (gA 3456 (h 46) a0 <| fun v18 => some v18))
def K_Calling_callOnAndOn_L51 (N : Nat) (x3 : Int32) (x4 : Int32) (x5 : Int32) (x6 : Int32) (h : Hp) : Option ((Int32 × Hp) ⊕ (Hp)) :=
   if x4 ≤ x6 then ( some (.inr h)) else ( if 3456 ≤ x6 then ( some (.inr h)) else (gA 3456 (h 49) x6 <| fun v77 => gA 3456 (h 49) x6 <| fun v85 => bd (K_Calling_strokesTo v85 h) <| fun v86 => bd (K_Calling_goOn N v77 v86 x5 h) <| fun h91 => nm (x6 + 1) <| fun v94 => some (.inl (v94, h91))))
def K_Calling_callOnAndOn_L26 (N : Nat) (x3 : Int32) (x4 : Int32) (x5 : Int32) (h : Hp) : Option ((Int32 × Hp) ⊕ (Hp)) :=
   if 16 ≤ x5 then ( some (.inr h)) else ( if x4 ≤ 0 then ( some (.inr h)) else (nm (hset h 45 4 ((h 45 4) + 1)) <| fun h45 => bd (loopN (fun z_ : Int32 × Hp => K_Calling_callOnAndOn_L51 N x3 x4 x5 z_.1 z_.2) N (0, h45)) <| fun t51 => nm (x5 + 1) <| fun v100 => some (.inl (v100, t51))))
def K_Calling_callOnAndOn_L2 (N : Nat) (x3 : Int32) (h : Hp) : Option ((Int32 × Hp) ⊕ (Int32 × Hp)) :=
   if 60 ≤ x3 then ( some (.inr (x3, h))) else ( if (h 45 5) = 99 then (bd2 (K_Calling_gatherSources N h) <| fun v18 h18 => bd (loopN (fun z_ : Int32 × Hp => K_Calling_callOnAndOn_L26 N x3 v18 z_.1 z_.2) N (0, h18)) <| fun t26 => nm (x3 + 1) <| fun v106 => some (.inl (v106, t26))) else ( some (.inr (x3, h))))
def K_Calling_callOnAndOn_J112 (N : Nat) (x3 : Int32) (h : Hp) : Option (Hp) :=
   if (h 45 5) = 99 then ( some h) else (nm (hset h 45 6 x3) <| fun h123 => nm (hset h123 45 7 (h123 45 5)) <| fun h131 => some h131)
def K_Calling_callOnAndOn (N : Nat) (h : Hp) : Option (Hp) :=
  bd (loopN (fun z_ : Int32 × Hp => K_Calling_callOnAndOn_L2 N z_.1 z_.2) N (0, h)) <| fun t2 =>  K_Calling_callOnAndOn_J112 N t2.1 t2.2
def K_Calling_look_J101 (N : Nat) (x3 : Int32) (x4 : Int32) (y1 : Int32) (h : Hp) : Option (Hp) :=
  nm (hset h 45 5 y1) <| fun h101 => nm (hset h101 45 4 ((h101 45 4) + 1)) <| fun h111 => bd (K_Calling_goOn N x3 0 x4 h111) <| fun h121 => bd (K_Calling_callOnAndOn N h121) <| fun h127 => some h127
def K_Calling_look (N : Nat) (c0 : Int32) (d0 : Int32) (h : Hp) : Option (Hp) :=
  nm (((c0 * 16) + d0)) <| fun v7 => if v7 = (h 45 8) then ( some h) else ( if c0 < 0 then ( some h) else ( if c0 < 3456 then (nm (hset h 45 8 v7) <| fun h35 => nm (hset h35 45 6 (-1)) <| fun h40 => nm (hset h40 45 7 (-1)) <| fun h45 => if (h45 10 8) = (-1) then ( some h45) else (nm (hrow h45 46 (filled 3456 (h45 46) 99)) <| fun h63 => nm (hrow h63 47 (filled 3456 (h63 47) 99)) <| fun h72 => sA 3456 c0 <| nm (hset h72 47 (Int32.toNatClampNeg c0) 0) <| fun h81 => bd (K_River_isGoal (rm32 c0 384) h81) <| fun v89 => if v89 = 0 then ( K_Calling_look_J101 N c0 d0 99 h81) else ( K_Calling_look_J101 N c0 d0 0 h81))) else ( some h)))
def K_Crew_turning (a0 : Int32) : Option (Int32) :=
   if a0 = 0 then ( some 1) else ( if a0 = 1 then ( some (-1)) else ( some 0))
def K_Crew_pushing (a0 : Int32) : Option (Int32) :=
   if a0 = 2 then ( some (-1)) else ( if a0 = 3 then ( some 0) else ( some 1))
def K_Crew_take_L16 (N : Nat) (x3 : Int32) (x4 : Int32) (x5 : Int32) (h : Hp) : Option ((Int32 × Hp) ⊕ (Hp)) :=
   if 16 ≤ x5 then ( some (.inr h)) else ( if 16 ≤ x5 then ( some (.inr h)) else ( if 16 ≤ x5 then ( some (.inr h)) else (nm ((x5 / 4)) <| fun v47 => nm ((rm32 x5 4)) <| fun v53 => bd (K_Crew_turning v47) <| fun v64 => bd (K_Crew_turning v53) <| fun v74 => dz (if 1 < (h 10 5) then (h 10 5) else 1) <| sA 16 x5 <| nm (hset h 21 (Int32.toNatClampNeg x5) (((x3 * v64) + ((2 * x4) * v74)) / (if 1 < (h 10 5) then (h 10 5) else 1))) <| fun h88 => bd (K_Crew_pushing v47) <| fun v92 => bd (K_Crew_pushing v53) <| fun v100 => dz (if 1 < (h88 10 6) then (h88 10 6) else 1) <| nm ((((x3 * v92) + (x4 * v100)) / (if 1 < (h88 10 6) then (h88 10 6) else 1))) <| fun v114 => sA 16 x5 <| nm (hset h88 22 (Int32.toNatClampNeg x5) (if (-2) < (if v114 < 2 then v114 else 2) then (if v114 < 2 then v114 else 2) else (-2))) <| fun h133 => nm (x5 + 1) <| fun v134 => some (.inl (v134, h133)))))
def K_Crew_take (N : Nat) (b0 : Int32) (h : Hp) : Option (Hp) :=
  nm (((h 10 3) + b0)) <| fun v6 => nm ((h 10 4)) <| fun v11 => bd (loopN (fun z_ : Int32 × Hp => K_Crew_take_L16 N v6 v11 z_.1 z_.2) N (0, h)) <| fun t16 =>  some t16
def K_Crew_calm (a0 : Int32) (b0 : Int32) (h : Hp) : Option (Int32) :=
  bd (K_Crew_turnOf b0 h) <| fun v7 => bd (K_Crew_pushOf b0 h) <| fun v12 => bd (K_Waters_calm a0 v7 v12 h) <| fun v15 => some v15
def K_Gusts_forget (h : Hp) : Option (Hp) :=
  nm (hset h 55 3 (-1)) <| fun h2 => some h2
def K_River_kindOf (a0 : Int32) (h : Hp) : Option (Int32) :=
   if a0 < 0 then ( some 1) else ( if 48 ≤ a0 then ( some 1) else (gA 48 (h 11) a0 <| fun v18 => some v18))
def K_Gusts_worstOf (a0 : Int32) (h : Hp) : Option (Int32) :=
   if a0 < 0 then ( some 99) else ( if 384 ≤ a0 then ( some 99) else (gA 384 (h 56) a0 <| fun v18 => some v18))
def K_Gusts_surePair_L3 (N : Nat) (x2 : Int32) (x3 : Int32) (x4 : Int32) (h : Hp) : Option ((Int32) ⊕ (Int32) ⊕ (Unit)) :=
   if 16 ≤ x4 then ( some (.inr (.inr ()))) else (bd (K_Crew_calm x2 x4 h) <| fun v14 => bd (K_Gusts_worstOf v14 h) <| fun v22 => if x3 ≤ v22 then (nm (x4 + 1) <| fun v49 => some (.inl v49)) else (bd (K_Waters_gust v14 h) <| fun v36 => bd (K_Gusts_worstOf v36 h) <| fun v39 => if x3 ≤ v39 then (nm (x4 + 1) <| fun v49 => some (.inl v49)) else ( some (.inr (.inl x4)))))
def K_Gusts_surePair (N : Nat) (b0 : Int32) (c0 : Int32) (h : Hp) : Option (Int32) :=
  bd (loopN (fun z_ : Int32 => K_Gusts_surePair_L3 N b0 c0 z_ h) N 0) <| fun t3 => el t3 (fun r_ => some r_) (fun t3x =>  some (-1))
def K_Gusts_widen_L6 (N : Nat) (x3 : Int32) (x4 : Int32) (x5 : Int32) (h : Hp) : Option ((Int32 × Int32 × Hp) ⊕ (Int32 × Hp)) :=
   if 384 ≤ x5 then ( some (.inr (x4, h))) else (gA 384 (h 56) x5 <| fun v22 => if v22 = 99 then (bd (K_River_kindOf (x5 / 8) h) <| fun v34 => if v34 = 1 then (nm (x5 + 1) <| fun v64 => some (.inl (x4, v64, h))) else (bd (K_Gusts_surePair N x5 x3 h) <| fun v46 => if v46 = (-1) then (nm (x5 + 1) <| fun v64 => some (.inl (x4, v64, h))) else (sA 384 x5 <| nm (hset h 56 (Int32.toNatClampNeg x5) x3) <| fun h60 => nm (x5 + 1) <| fun v64 => some (.inl (1, v64, h60))))) else (nm (x5 + 1) <| fun v64 => some (.inl (x4, v64, h))))
def K_Gusts_widen (N : Nat) (c0 : Int32) (h : Hp) : Option (Int32 × Hp) :=
  bd (loopN (fun z_ : Int32 × Int32 × Hp => K_Gusts_widen_L6 N c0 z_.1 z_.2.1 z_.2.2) N (0, 0, h)) <| fun t6 => bz t6.1 <| some (t6.1, t6.2)
def K_Gusts_look_J88 (N : Nat) (x3 : Int32) (x4 : Int32) (y1 : Int32) (y2 : Int32) (h : Hp) : Option ((Int32 × Hp) ⊕ (Hp)) :=
  sA 384 y1 <| nm (hset h 56 (Int32.toNatClampNeg y1) y2) <| fun h88 => nm (x4 + 1) <| fun v89 => some (.inl (v89, h88))
def K_Gusts_look_L57 (N : Nat) (x3 : Int32) (x4 : Int32) (h : Hp) : Option ((Int32 × Hp) ⊕ (Hp)) :=
   if 384 ≤ x4 then ( some (.inr h)) else (bd (K_River_isGoal x4 h) <| fun v76 => if v76 = 0 then ( K_Gusts_look_J88 N x3 x4 x4 99 h) else ( K_Gusts_look_J88 N x3 x4 x4 0 h))
def K_Gusts_look_L101 (N : Nat) (x3 : Int32) (x4 : Int32) (x5 : Int32) (h : Hp) : Option ((Int32 × Int32 × Hp) ⊕ (Hp)) :=
   if 30 < x5 then ( some (.inr h)) else ( if x4 = 0 then ( some (.inr h)) else (gA 384 (h 56) x3 <| fun v118 => if v118 = 99 then (bd2 (K_Gusts_widen N x5 h) <| fun v129 h129 => nm (x5 + 1) <| fun v134 => some (.inl (v129, v134, h129))) else ( some (.inr h))))
def K_Gusts_look_J140 (N : Nat) (x3 : Int32) (h : Hp) : Option (Hp) :=
  gA 384 (h 56) x3 <| fun v145 => if v145 = 99 then ( some h) else (gA 384 (h 56) x3 <| fun v157 => nm (hset h 55 1 v157) <| fun h158 => bd (K_Gusts_surePair N x3 (h158 55 1) h158) <| fun v169 => nm (hset h158 55 2 v169) <| fun h172 => some h172)
def K_Gusts_look (N : Nat) (c0 : Int32) (h : Hp) : Option (Hp) :=
   if c0 = (h 55 3) then ( some h) else ( if c0 < 0 then ( some h) else ( if c0 < 384 then (nm (hset h 55 3 c0) <| fun h24 => nm (hset h24 55 1 (-1)) <| fun h29 => nm (hset h29 55 2 (-1)) <| fun h34 => if (h34 10 10) = (-1) then ( some h34) else ( if (h34 10 8) = (-1) then ( some h34) else (bd (loopN (fun z_ : Int32 × Hp => K_Gusts_look_L57 N c0 z_.1 z_.2) N (0, h34)) <| fun t57 => bd (loopN (fun z_ : Int32 × Int32 × Hp => K_Gusts_look_L101 N c0 z_.1 z_.2.1 z_.2.2) N (1, 1, t57)) <| fun t101 =>  K_Gusts_look_J140 N c0 t101))) else ( some h)))
def K_Lines_addMark (a0 : Int32) (h : Hp) : Option (Int32 × Hp) :=
   if (h 60 4) < 0 then ( some (0, h)) else ( if (h 60 4) < 4 then (sA 4 (h 60 4) <| nm (hset h 61 (Int32.toNatClampNeg (h 60 4)) a0) <| fun h30 => nm (hset h30 60 4 ((h30 60 4) + 1)) <| fun h38 => some (1, h38)) else ( some (0, h)))
def K_Lines_addEntry (a0 : Int32) (b0 : Int32) (h : Hp) : Option (Int32 × Hp) :=
   if (h 60 5) < 0 then ( some (0, h)) else ( if 20 ≤ (h 60 5) then ( some (0, h)) else ( if (h 60 5) < 20 then (sA 20 (h 60 5) <| nm (hset h 63 (Int32.toNatClampNeg (h 60 5)) a0) <| fun h42 => sA 20 (h42 60 5) <| nm (hset h42 64 (Int32.toNatClampNeg (h42 60 5)) b0) <| fun h52 => nm (hset h52 60 5 ((h52 60 5) + 1)) <| fun h60 => some (1, h60)) else ( some (0, h))))
def K_Lines_empty (h : Hp) : Option (Hp) :=
  nm (hset h 60 4 0) <| fun h2 => nm (hset h2 60 5 0) <| fun h7 => some h7
def K_C_squareOf (a0 : Int32) : Option (Int32) :=
   some ((rm32 a0 384) / 8)
def K_Lines_firstWrong_L5 (N : Nat) (x3 : Int32) (x4 : Int32) (h : Hp) : Option ((Int32 × Int32) ⊕ (Int32) ⊕ (Unit)) :=
   if (h 60 5) ≤ x4 then ( some (.inr (.inr ()))) else ( if 20 ≤ x4 then ( some (.inr (.inr ()))) else ( if 20 ≤ x4 then ( some (.inr (.inr ()))) else (gA 20 (h 63) x4 <| fun v42 => bd (K_Crew_after x3 v42 h) <| fun v43 => bd (K_C_squareOf v43) <| fun v48 => gA 20 (h 64) x4 <| fun v57 => if v48 = v57 then (nm (x4 + 1) <| fun v64 => some (.inl (v43, v64))) else ( some (.inr (.inl x4))))))
def K_Lines_firstWrong (N : Nat) (b0 : Int32) (h : Hp) : Option (Int32) :=
  bd (loopN (fun z_ : Int32 × Int32 => K_Lines_firstWrong_L5 N z_.1 z_.2 h) N (b0, 0)) <| fun t5 => el t5 (fun r_ => some r_) (fun t5x =>  some (-1))
def K_Waters_timeBehind (a0 : Int32) (h : Hp) : Option (Int32) :=
  dz (if 1 < (h 15 2) then (h 15 2) else 1) <| some (rm32 a0 (if 1 < (h 15 2) then (h 15 2) else 1))
def K_Lines_momentBehind_J29 (x1 : Int32) (x2 : Int32) (x4 : Int32) (y0 : Int32) (h : Hp) : Option (Int32) :=
  bd (K_Waters_timeBehind ((x4 / 384) + x1) h) <| fun v43 => some (((v43 * 384) + (y0 * 8)) + x2)
def K_Lines_momentBehind_J24 (x1 : Int32) (x2 : Int32) (x4 : Int32) (h : Hp) : Option (Int32) :=
  bd (K_C_squareOf x4) <| fun v26 => K_Lines_momentBehind_J29 x1 x2 x4 v26 h
def K_Lines_momentBehind (a0 : Int32) (b0 : Int32) (d0 : Int32) (h : Hp) : Option (Int32) :=
   if a0 ≤ 0 then ( K_Lines_momentBehind_J24 a0 b0 d0 h) else ( if 4 < a0 then ( K_Lines_momentBehind_J24 a0 b0 d0 h) else (gA 4 (h 61) (a0 - 1) <| fun v20 => K_Lines_momentBehind_J29 a0 b0 d0 v20 h))
def K_C_headingOf (a0 : Int32) : Option (Int32) :=
   some (rm32 a0 8)
def K_Lines_waysFrom (a0 : Int32) (b0 : Int32) (h : Hp) : Option (Int32) :=
  bd (K_C_headingOf b0) <| fun v5 => nm (((a0 * 8) + v5)) <| fun v9 => if v9 < 0 then ( some 0) else ( if 40 ≤ v9 then ( some 0) else (gA 40 (h 62) v9 <| fun v28 => some v28))
def K_Lines_waysBehind_J39 (x1 : Int32) (x2 : Int32) (y0 : Int32) (h : Hp) : Option (Int32) :=
   if y0 = 0 then ( some 0) else (bd (K_Lines_waysFrom (x1 + 1) x2 h) <| fun v49 => some v49)
def K_Lines_waysBehind_J38 (x1 : Int32) (x2 : Int32) (h : Hp) : Option (Int32) :=
   K_Lines_waysBehind_J39 x1 x2 0 h
def K_Lines_waysBehind (a0 : Int32) (b0 : Int32) (h : Hp) : Option (Int32) :=
   if a0 < 0 then ( K_Lines_waysBehind_J38 a0 b0 h) else ( if (h 60 4) ≤ a0 then ( K_Lines_waysBehind_J38 a0 b0 h) else ( if 4 ≤ a0 then ( K_Lines_waysBehind_J38 a0 b0 h) else (bd (K_C_squareOf b0) <| fun v22 => gA 4 (h 61) a0 <| fun v30 => if v22 = v30 then ( K_Lines_waysBehind_J39 a0 b0 1 h) else ( K_Lines_waysBehind_J38 a0 b0 h))))
def K_Lines_countWays_J32 (N : Nat) (x2 : Int32) (x3 : Int32) (y1 : Int32) (y2 : Int32) (h : Hp) : Option ((Int32 × Hp) ⊕ (Hp)) :=
  sA 40 y1 <| nm (hset h 62 (Int32.toNatClampNeg y1) y2) <| fun h32 => nm (x3 + 1) <| fun v33 => some (.inl (v33, h32))
def K_Lines_countWays_L2 (N : Nat) (x2 : Int32) (x3 : Int32) (h : Hp) : Option ((Int32 × Hp) ⊕ (Hp)) :=
   if 40 ≤ x3 then ( some (.inr h)) else ( if (x3 / 8) = (h 60 4) then ( K_Lines_countWays_J32 N x2 x3 x3 1 h) else ( K_Lines_countWays_J32 N x2 x3 x3 0 h))
def K_Lines_countWays_L97 (N : Nat) (x2 : Int32) (x4 : Int32) (x5 : Int32) (x6 : Int32) (x7 : Int32) (x8 : Int32) (h : Hp) : Option ((Int32 × Int32) ⊕ (Int32)) :=
   if 16 ≤ x8 then ( some (.inr x7)) else (bd (K_Crew_after x6 x8 h) <| fun v114 => bd (K_Lines_waysBehind x5 v114 h) <| fun v117 => nm ((x7 + v117)) <| fun v121 => nm (x8 + 1) <| fun v123 => some (.inl (v121, v123)))
def K_Lines_countWays_L64 (N : Nat) (x2 : Int32) (x4 : Int32) (h : Hp) : Option ((Int32 × Hp) ⊕ (Hp)) :=
   if x4 < 0 then ( some (.inr h)) else (nm ((x4 / 8)) <| fun v74 => bd (K_Lines_momentBehind v74 (rm32 x4 8) x2 h) <| fun v86 => bd (loopN (fun z_ : Int32 × Int32 => K_Lines_countWays_L97 N x2 x4 v74 v86 z_.1 z_.2 h) N (0, 0)) <| fun t97 => sA 40 x4 <| nm (hset h 62 (Int32.toNatClampNeg x4) t97) <| fun h137 => nm (x4 + (-1)) <| fun v138 => some (.inl (v138, h137)))
def K_Lines_countWays (N : Nat) (b0 : Int32) (h : Hp) : Option (Hp) :=
  bd (loopN (fun z_ : Int32 × Hp => K_Lines_countWays_L2 N b0 z_.1 z_.2) N (0, h)) <| fun t2 => nm ((if 0 < (if 40 < ((t2 60 4) * 8) then 40 else ((t2 60 4) * 8)) then (if 40 < ((t2 60 4) * 8) then 40 else ((t2 60 4) * 8)) else 0)) <| fun v58 => nm ((v58 - 1)) <| fun v62 => bd (loopN (fun z_ : Int32 × Hp => K_Lines_countWays_L64 N b0 z_.1 z_.2) N (v62, t2)) <| fun t64 =>  some t64
def K_Lines_firstPair_L3 (N : Nat) (x1 : Int32) (x3 : Int32) (x4 : Int32) (h : Hp) : Option ((Int32) ⊕ (Int32) ⊕ (Unit)) :=
   if 16 ≤ x4 then ( some (.inr (.inr ()))) else (bd (K_Crew_after x3 x4 h) <| fun v16 => bd (K_Lines_waysBehind x1 v16 h) <| fun v19 => if v19 ≤ 0 then (nm (x4 + 1) <| fun v28 => some (.inl v28)) else ( some (.inr (.inl x4))))
def K_Lines_firstPair (N : Nat) (a0 : Int32) (c0 : Int32) (h : Hp) : Option (Int32) :=
  bd (loopN (fun z_ : Int32 => K_Lines_firstPair_L3 N a0 c0 z_ h) N 0) <| fun t3 => el t3 (fun r_ => some r_) (fun t3x =>  some (-1))
def K_Lines_firstPairAt_L29 (N : Nat) (x1 : Int32) (x4 : Int32) (x5 : Int32) (h : Hp) : Option ((Int32 × Int32) ⊕ (Int32)) :=
   if x1 ≤ x5 then ( some (.inr x4)) else (bd (K_Lines_firstPair N x5 x4 h) <| fun v44 => bd (K_Crew_after x4 v44 h) <| fun v47 => nm (x5 + 1) <| fun v52 => some (.inl (v47, v52)))
def K_Lines_firstPairAt (N : Nat) (a0 : Int32) (c0 : Int32) (h : Hp) : Option (Int32) :=
   if a0 < 0 then ( some (-1)) else ( if (h 60 4) ≤ a0 then ( some (-1)) else (bd (K_Lines_waysFrom 0 c0 h) <| fun v15 => if v15 = 0 then ( some (-1)) else (bd (loopN (fun z_ : Int32 × Int32 => K_Lines_firstPairAt_L29 N a0 z_.1 z_.2 h) N (c0, 0)) <| fun t29 => bd (K_Lines_firstPair N a0 t29 h) <| fun v63 => some v63)))
def K_Lines_heldAlways_J151 (N : Nat) (x1 : Int32) (x3 : Int32) (x5 : Int32) (x6 : Int32) (x7 : Int32) (x8 : Int32) (y0 : Int32) (y1 : Int32) (h : Hp) : Option ((Int32 × Int32 × Int32) ⊕ (Int32 × Int32)) :=
  nm ((y0 &&& y1)) <| fun v152 => nm (x8 + 1) <| fun v154 => some (.inl (v152, x7, v154))
def K_Lines_heldAlways_J136 (N : Nat) (x1 : Int32) (x3 : Int32) (x4 : Int32) (x5 : Int32) (x6 : Int32) (x7 : Int32) (x8 : Int32) (y0 : Int32) (y1 : Int32) (h : Hp) : Option ((Int32 × Int32 × Int32) ⊕ (Int32 × Int32)) :=
   if y1 = 3 then ( K_Lines_heldAlways_J151 N x1 x3 x5 x6 x7 x8 y0 x4 h) else ( K_Lines_heldAlways_J151 N x1 x3 x5 x6 x7 x8 y0 ((1 <<< (x6 &&& 31)) ^^^ (-1)) h)
def K_Lines_heldAlways_L47 (N : Nat) (x1 : Int32) (x3 : Int32) (x4 : Int32) (x5 : Int32) (x6 : Int32) (x7 : Int32) (x8 : Int32) (h : Hp) : Option ((Int32 × Int32 × Int32) ⊕ (Int32 × Int32)) :=
   if 128 ≤ x8 then ( some (.inr (x4, x7))) else (nm ((rm32 x8 16)) <| fun v60 => bd (K_Lines_momentBehind x6 (x8 / 16) x3 h) <| fun v73 => bd (K_Crew_after v73 v60 h) <| fun v78 => if ((x5 >>> ((x8 / 16) &&& 31)) &&& 1) = 0 then (nm (x8 + 1) <| fun v154 => some (.inl (x4, x7, v154))) else (bd (K_Lines_waysBehind x6 v78 h) <| fun v101 => if v101 ≤ 0 then (nm (x8 + 1) <| fun v154 => some (.inl (x4, x7, v154))) else (bd (K_C_headingOf v78) <| fun v112 => nm ((x7 ||| (1 <<< (v112 &&& 31)))) <| fun v117 => if x1 = 0 then ( K_Lines_heldAlways_J136 N x1 x3 x4 x5 x6 v117 x8 x4 (v60 / 4) h) else ( K_Lines_heldAlways_J136 N x1 x3 x4 x5 x6 v117 x8 x4 (rm32 v60 4) h))))
def K_Lines_heldAlways_L32 (N : Nat) (x1 : Int32) (x3 : Int32) (x4 : Int32) (x5 : Int32) (x6 : Int32) (h : Hp) : Option ((Int32 × Int32 × Int32) ⊕ (Int32)) :=
   if (h 60 4) ≤ x6 then ( some (.inr x4)) else (bd (loopN (fun z_ : Int32 × Int32 × Int32 => K_Lines_heldAlways_L47 N x1 x3 z_.1 x5 x6 z_.2.1 z_.2.2 h) N (x4, 0, 0)) <| fun t47 => nm (t47.2) <| fun v162 => nm (x6 + 1) <| fun v164 => some (.inl (t47.1, v162, v164)))
def K_Lines_heldAlways (N : Nat) (a0 : Int32) (c0 : Int32) (h : Hp) : Option (Int32) :=
  bd (K_Lines_waysFrom 0 c0 h) <| fun v3 => if v3 = 0 then ( some 0) else (nm (((1 <<< ((h 60 4) &&& 31)) - 1)) <| fun v19 => bd (K_C_headingOf c0) <| fun v23 => nm ((1 <<< (v23 &&& 31))) <| fun v27 => bd (loopN (fun z_ : Int32 × Int32 × Int32 => K_Lines_heldAlways_L32 N a0 c0 z_.1 z_.2.1 z_.2.2 h) N (v19, v27, 0)) <| fun t32 =>  some t32)
def K_Log_add_J29 (h : Hp) : Option (Hp) :=
  nm (hset h 35 1 (rm32 ((h 35 1) + 1) 50)) <| fun h39 => nm (hset h39 35 2 (if 50 < ((h39 35 2) + 1) then 50 else ((h39 35 2) + 1))) <| fun h54 => some h54
def K_Log_add (a0 : Int32) (h : Hp) : Option (Hp) :=
   if (h 35 1) < 0 then ( K_Log_add_J29 h) else ( if 50 ≤ (h 35 1) then ( K_Log_add_J29 h) else (sA 50 (h 35 1) <| nm (hset h 36 (Int32.toNatClampNeg (h 35 1)) a0) <| fun h28 => K_Log_add_J29 h28))
def K_Log_takeBack (a0 : Int32) (h : Hp) : Option (Int32 × Hp) :=
  bd (K_JMath_floorMod ((h 35 1) - a0) 50) <| fun v9 => nm (hset h 35 1 v9) <| fun h12 => nm (hset h12 35 2 ((h12 35 2) - a0)) <| fun h22 => if (h22 35 1) < 0 then ( some (0, h22)) else ( if 50 ≤ (h22 35 1) then ( some (0, h22)) else (gA 50 (h22 36) (h22 35 1) <| fun v52 => some (v52, h22)))
def K_Log_forget (h : Hp) : Option (Hp) :=
  nm (hset h 35 2 0) <| fun h2 => some h2
def K_Reader_skipBlanks_L0 (N : Nat) (h : Hp) : Option ((Hp) ⊕ (Hp)) :=
   if (h 70 1) ≤ (h 70 3) then ( some (.inr h)) else ( if 250 ≤ (h 70 3) then ( some (.inr h)) else (gA 250 (h 2) (h 70 3) <| fun v31 => if v31 = 32 then (nm (hset h 70 3 ((h 70 3) + 1)) <| fun h44 => some (.inl h44)) else ( some (.inr h))))
def K_Reader_skipBlanks (N : Nat) (h : Hp) : Option (Hp) :=
  bd (loopN (fun z_ : Hp => K_Reader_skipBlanks_L0 N z_) N h) <| fun t0 =>  some t0
def K_Reader_letterHere (h : Hp) : Option (Int32) :=
   if (h 70 3) < 0 then ( some 256) else ( if (h 70 1) ≤ (h 70 3) then ( some 256) else ( if 250 ≤ (h 70 3) then ( some 256) else (gA 250 (h 2) (h 70 3) <| fun v38 => some v38)))
def K_Reader_fail (a0 : Int32) (b0 : Int32) (h : Hp) : Option (Hp) :=
   if (h 70 6) = 0 then (nm (hset h 70 6 a0) <| fun h9 => nm (hset h9 70 7 b0) <| fun h14 => some h14) else ( some h)
def K_Reader_isFigure (a0 : Int32) : Option (Int32) :=
   if a0 < 48 then ( some 0) else ( if 57 < a0 then ( some 0) else ( some 1))
def K_Reader_readNumber_J61 (N : Nat) (x1 : Int32) (x2 : Int32) (x3 : Int32) (h : Hp) : Option ((Int32 × Hp) ⊕ (Int32 × Hp)) :=
  nm (hset h 70 3 ((h 70 3) + 1)) <| fun h68 => some (.inl (x3, h68))
def K_Reader_readNumber_L14 (N : Nat) (x1 : Int32) (x2 : Int32) (x3 : Int32) (h : Hp) : Option ((Int32 × Hp) ⊕ (Int32 × Hp)) :=
   if (h 70 1) ≤ (h 70 3) then ( some (.inr (x3, h))) else (bd (K_Reader_letterHere h) <| fun v26 => bd (K_Reader_isFigure v26) <| fun v29 => if v29 = 0 then ( some (.inr (x3, h))) else ( if 3 ≤ ((h 70 3) - (h 70 5)) then ( K_Reader_readNumber_J61 N x1 x2 x3 h) else (bd (K_Reader_letterHere h) <| fun v53 => nm ((((10 * x3) + v53) - 48)) <| fun v60 => K_Reader_readNumber_J61 N x1 x2 v60 h)))
def K_Reader_readNumber_J127 (N : Nat) (x1 : Int32) (x3 : Int32) (h : Hp) : Option (Int32 × Hp) :=
   if (h 70 6) = 0 then ( some (x3, h)) else ( some (x1, h))
def K_Reader_readNumber_J118 (N : Nat) (x1 : Int32) (x3 : Int32) (h : Hp) : Option (Int32 × Hp) :=
  bd (K_Reader_fail 2 (h 70 5) h) <| fun h124 => K_Reader_readNumber_J127 N x1 x3 h124
def K_Reader_readNumber_J74 (N : Nat) (x1 : Int32) (x2 : Int32) (x3 : Int32) (h : Hp) : Option (Int32 × Hp) :=
  nm (((h 70 3) - (h 70 5))) <| fun v83 => if v83 = 0 then (bd (K_Reader_fail 1 (h 70 3) h) <| fun h96 => K_Reader_readNumber_J127 N x1 x3 h96) else ( if 3 < v83 then ( K_Reader_readNumber_J118 N x1 x3 h) else ( if x3 < x1 then ( K_Reader_readNumber_J118 N x1 x3 h) else ( if x3 ≤ x2 then ( K_Reader_readNumber_J127 N x1 x3 h) else ( K_Reader_readNumber_J118 N x1 x3 h))))
def K_Reader_readNumber (N : Nat) (a0 : Int32) (b0 : Int32) (h : Hp) : Option (Int32 × Hp) :=
  bd (K_Reader_skipBlanks N h) <| fun h1 => nm (hset h1 70 5 (h1 70 3)) <| fun h9 => bd (loopN (fun z_ : Int32 × Hp => K_Reader_readNumber_L14 N a0 b0 z_.1 z_.2) N (0, h9)) <| fun t14 =>  K_Reader_readNumber_J74 N a0 b0 t14.1 t14.2
def K_Reader_readOneOf (N : Nat) (a0 : Nat) (h : Hp) : Option (Int32 × Hp) :=
  bd (K_Reader_skipBlanks N h) <| fun h1 => bd (K_Reader_letterHere h1) <| fun v6 => nm (idxK a0 (Int32.toUInt32 v6 % 65536).toInt32) <| fun v10 => if 0 ≤ v10 then (nm (hset h1 70 3 ((h1 70 3) + 1)) <| fun h36 => some (v10, h36)) else (bd (K_Reader_fail 1 (h1 70 3) h1) <| fun h24 => some (0, h24))
def K_River_putKind (a0 : Int32) (b0 : Int32) (h : Hp) : Option (Hp) :=
   if a0 < 0 then ( some h) else ( if 48 ≤ a0 then ( some h) else (sA 48 a0 <| nm (hset h 11 (Int32.toNatClampNeg a0) b0) <| fun h19 => some h19))
def K_River_firstOpen_L2 (N : Nat) (x1 : Int32) (h : Hp) : Option ((Int32) ⊕ (Int32) ⊕ (Unit)) :=
   if 48 ≤ x1 then ( some (.inr (.inr ()))) else (gA 48 (h 11) x1 <| fun v16 => if v16 = 1 then (nm (x1 + 1) <| fun v23 => some (.inl v23)) else ( some (.inr (.inl x1))))
def K_River_firstOpen (N : Nat) (h : Hp) : Option (Int32) :=
  bd (loopN (fun z_ : Int32 => K_River_firstOpen_L2 N z_ h) N 0) <| fun t2 => el t2 (fun r_ => some r_) (fun t2x =>  some (-1))
def K_Reader_readSquares_L26 (N : Nat) (x1 : Int32) (x2 : Int32) (x3 : Int32) (x4 : Int32) (h : Hp) : Option ((Int32 × Hp) ⊕ (Hp) ⊕ (Hp)) :=
   if x1 ≤ x4 then ( some (.inr (.inr h))) else (bd2 (K_Reader_readOneOf N 1 h) <| fun v35 h35 => if (h35 70 6) = 0 then (bd (K_River_putKind ((x3 * 8) + x4) v35 h35) <| fun h61 => nm (mx [10, 11, 12] h61 h35) <| fun h61m => nm (x4 + 1) <| fun v64 => some (.inl (v64, h61m))) else ( some (.inr (.inl h35))))
def K_Reader_readSquares_L18 (N : Nat) (x1 : Int32) (x2 : Int32) (x3 : Int32) (h : Hp) : Option ((Int32 × Hp) ⊕ (Hp) ⊕ (Hp)) :=
   if x2 ≤ x3 then ( some (.inr (.inr h))) else (bd (loopN (fun z_ : Int32 × Hp => K_Reader_readSquares_L26 N x1 x2 x3 z_.1 z_.2) N (0, h)) <| fun t26 => el t26 (fun r_ => some (.inr (.inl r_))) (fun t26x => nm (x3 + 1) <| fun v70 => some (.inl (v70, t26x))))
def K_Reader_readSquares_J100 (N : Nat) (x1 : Int32) (x2 : Int32) (x3 : Int32) (h : Hp) : Option (Hp) :=
  nm (hset h 10 0 x1) <| fun h105 => nm (hset h105 10 1 x2) <| fun h113 => nm (hset h113 10 7 (x3 * 8)) <| fun h124 => some h124
def K_Reader_readSquares (N : Nat) (h : Hp) : Option (Hp) :=
  bd2 (K_Reader_readNumber N 1 8 h) <| fun v4 h4 => bd2 (K_Reader_readNumber N 1 6 h4) <| fun v12 h12 => bd (loopN (fun z_ : Int32 × Hp => K_Reader_readSquares_L18 N v4 v12 z_.1 z_.2) N (0, h12)) <| fun t18 => el t18 (fun r_ => some r_) (fun t18x => bd (K_River_firstOpen N t18x) <| fun v80 => if v80 = (-1) then (bd (K_Reader_fail 4 ((t18x 70 3) - 1) t18x) <| fun h97 => K_Reader_readSquares_J100 N v4 v12 v80 h97) else ( K_Reader_readSquares_J100 N v4 v12 v80 t18x))
def K_Reader_readStrengths (N : Nat) (h : Hp) : Option (Hp) :=
  bd2 (K_Reader_readNumber N 1 9 h) <| fun v8 h8 => nm (hset h8 10 3 v8) <| fun h11 => bd2 (K_Reader_readNumber N 1 9 h11) <| fun v22 h22 => nm (hset h22 10 4 v22) <| fun h25 => bd2 (K_Reader_readNumber N 1 20 h25) <| fun v36 h36 => nm (hset h36 10 5 v36) <| fun h39 => bd2 (K_Reader_readNumber N 1 20 h39) <| fun v50 h50 => nm (hset h50 10 6 v50) <| fun h53 => some h53
def K_Reader_readSquare (N : Nat) (h : Hp) : Option (Int32 × Hp) :=
  bd2 (K_Reader_readNumber N 0 ((h 10 0) - 1) h) <| fun v11 h11 => bd2 (K_Reader_readNumber N 0 ((h11 10 1) - 1) h11) <| fun v26 h26 => nm (((v26 * 8) + v11)) <| fun v36 => bd (K_River_kindOf v36 h26) <| fun v42 => if v42 = 1 then (bd (K_Reader_fail 4 (h26 70 5) h26) <| fun h55 => some (v36, h55)) else ( some (v36, h26))
def K_Reader_readBoat (N : Nat) (h : Hp) : Option (Hp) :=
  bd2 (K_Reader_readSquare N h) <| fun v1 h1 => bd2 (K_Reader_readNumber N 0 7 h1) <| fun v17 h17 => nm (hset h17 10 7 ((v1 * 8) + v17)) <| fun h21 => some h21
def K_Reader_readGoal (N : Nat) (h : Hp) : Option (Hp) :=
  bd2 (K_Reader_readSquare N h) <| fun v5 h5 => nm (hset h5 10 8 v5) <| fun h8 => bd2 (K_Reader_readNumber N 0 8 h8) <| fun v19 h19 => nm (hset h19 10 9 v19) <| fun h22 => some h22
def K_Reader_readWind (N : Nat) (h : Hp) : Option (Hp) :=
  bd2 (K_Reader_readNumber N 0 3 h) <| fun v7 h7 => nm (hset h7 10 10 v7) <| fun h10 => bd2 (K_Reader_readNumber N 1 9 h10) <| fun v21 h21 => nm (hset h21 10 11 v21) <| fun h24 => some h24
def K_Reader_readHabits_L2 (N : Nat) (x1 : Int32) (h : Hp) : Option ((Int32 × Hp) ⊕ (Hp)) :=
   if 8 ≤ x1 then ( some (.inr h)) else (bd2 (K_Reader_readOneOf N 2 h) <| fun v25 h25 => sA 8 x1 <| nm (hset h25 12 (Int32.toNatClampNeg x1) v25) <| fun h28 => nm (x1 + 1) <| fun v29 => some (.inl (v29, h28)))
def K_Reader_readHabits (N : Nat) (h : Hp) : Option (Hp) :=
  bd (loopN (fun z_ : Int32 × Hp => K_Reader_readHabits_L2 N z_.1 z_.2) N (0, h)) <| fun t2 =>  some t2
def K_Reader_readEnd_J22 (N : Nat) (h : Hp) : Option (Hp) :=
  nm (hset h 70 3 ((h 70 3) + 1)) <| fun h29 => some h29
def K_Reader_readEnd (N : Nat) (h : Hp) : Option (Hp) :=
  bd (K_Reader_skipBlanks N h) <| fun h1 => bd (K_Reader_letterHere h1) <| fun v5 => if v5 = 59 then ( K_Reader_readEnd_J22 N h1) else (bd (K_Reader_fail 1 (h1 70 3) h1) <| fun h19 => K_Reader_readEnd_J22 N h19)
def K_Reader_readClause_J26 (N : Nat) (h : Hp) : Option (Hp) :=
  bd (K_Reader_fail 1 (h 70 3) h) <| fun h32 => some h32
def K_Reader_readClause_J155 (N : Nat) (h : Hp) : Option (Hp) :=
  bd (K_Reader_readEnd N h) <| fun h156 => some h156
def K_Reader_readClause_J36 (N : Nat) (x1 : Int32) (h : Hp) : Option (Hp) :=
   if (((h 70 4) >>> (x1 &&& 31)) &&& 1) = 0 then (nm (hset h 70 4 ((h 70 4) ||| (1 <<< (x1 &&& 31)))) <| fun h66 => nm (hset h66 70 3 ((h66 70 3) + 1)) <| fun h76 => if x1 = 0 then (bd (K_Reader_readSquares N h76) <| fun h117 => K_Reader_readClause_J155 N h117) else ( if x1 = 1 then (bd (K_Reader_readStrengths N h76) <| fun h124 => K_Reader_readClause_J155 N h124) else ( if x1 = 2 then (bd (K_Reader_readBoat N h76) <| fun h131 => K_Reader_readClause_J155 N h131) else ( if x1 = 3 then (bd (K_Reader_readGoal N h76) <| fun h138 => K_Reader_readClause_J155 N h138) else ( if x1 = 4 then (bd (K_Reader_readWind N h76) <| fun h145 => K_Reader_readClause_J155 N h145) else (bd (K_Reader_readHabits N h76) <| fun h152 => K_Reader_readClause_J155 N h152)))))) else (bd (K_Reader_fail 3 (h 70 3) h) <| fun h53 => some h53)
def K_Reader_readClause (N : Nat) (h : Hp) : Option (Hp) :=
  bd (K_Reader_letterHere h) <| fun v3 => nm (idxK 0 (Int32.toUInt32 v3 % 65536).toInt32) <| fun v7 => if v7 < 0 then ( K_Reader_readClause_J26 N h) else ( if (h 70 4) = 0 then ( if v7 = 0 then ( K_Reader_readClause_J36 N v7 h) else ( K_Reader_readClause_J26 N h)) else ( K_Reader_readClause_J36 N v7 h))
def K_Reader_readText_L6 (N : Nat) (x1 : Int32) (h : Hp) : Option ((Int32 × Hp) ⊕ (Hp)) :=
   if 250 < x1 then ( some (.inr h)) else ( if (h 70 6) = 0 then ( if (h 70 1) ≤ (h 70 3) then ( some (.inr h)) else (bd (K_Reader_readClause N h) <| fun h32 => bd (K_Reader_skipBlanks N h32) <| fun h36 => nm (x1 + 1) <| fun v39 => some (.inl (v39, h36)))) else ( some (.inr h)))
def K_Reader_readText (N : Nat) (h : Hp) : Option (Hp) :=
  bd (K_Reader_skipBlanks N h) <| fun h1 => bd (loopN (fun z_ : Int32 × Hp => K_Reader_readText_L6 N z_.1 z_.2) N (0, h1)) <| fun t6 =>  some t6
def K_River_has (a0 : Int32) (b0 : Int32) (h : Hp) : Option (Int32) :=
   if a0 < 0 then ( some 0) else ( if (h 10 0) ≤ a0 then ( some 0) else ( if b0 < 0 then ( some 0) else ( if (h 10 1) ≤ b0 then ( some 0) else ( some 1))))
def K_River_habitOf (a0 : Int32) (b0 : Int32) (h : Hp) : Option (Int32) :=
  nm (((4 * a0) + b0)) <| fun v5 => if v5 < 0 then ( some 3) else ( if 8 ≤ v5 then ( some 3) else (gA 8 (h 12) v5 <| fun v24 => some v24))
def K_C_eastOf (a0 : Int32) : Option (Int32) :=
  gA 8 eastV (a0 &&& 7) <| fun v7 => some v7
def K_C_southOf (a0 : Int32) : Option (Int32) :=
  gA 8 southV (a0 &&& 7) <| fun v7 => some v7
def K_River_neighbour (a0 : Int32) (b0 : Int32) (h : Hp) : Option (Int32) :=
  bd (K_C_eastOf b0) <| fun v5 => nm (((rm32 a0 8) + v5)) <| fun v9 => bd (K_C_southOf b0) <| fun v15 => nm (((a0 / 8) + v15)) <| fun v19 => if v9 < 0 then ( some a0) else ( if 8 ≤ v9 then ( some a0) else ( if v19 < 0 then ( some a0) else ( if v19 < 6 then (nm (((v19 * 8) + v9)) <| fun v52 => bd (K_River_kindOf v52 h) <| fun v57 => if v57 = 1 then ( some a0) else ( some v52)) else ( some a0))))
def K_River_pushed_L38 (N : Nat) (x4 : Int32) (x5 : Int32) (x6 : Int32) (x7 : Int32) (h : Hp) : Option ((Int32 × Int32) ⊕ (Int32)) :=
   if x6 ≤ x7 then ( some (.inr x4)) else ( if 2 ≤ x7 then ( some (.inr x4)) else (bd (K_River_neighbour x4 x5 h) <| fun v56 => nm (x7 + 1) <| fun v61 => some (.inl (v56, v61))))
def K_River_pushed_J67 (N : Nat) (x4 : Int32) (h : Hp) : Option (Int32) :=
  bd (K_River_kindOf x4 h) <| fun v70 => if 3 ≤ v70 then (bd (K_River_neighbour x4 (2 * (v70 - 3)) h) <| fun v95 => some v95) else ( some x4)
def K_River_pushed_J33 (N : Nat) (x4 : Int32) (x5 : Int32) (y0 : Int32) (h : Hp) : Option (Int32) :=
  bd (loopN (fun z_ : Int32 × Int32 => K_River_pushed_L38 N z_.1 x5 y0 z_.2 h) N (x4, 0)) <| fun t38 =>  K_River_pushed_J67 N t38 h
def K_River_pushed_J14 (N : Nat) (x1 : Int32) (x3 : Int32) (x4 : Int32) (y0 : Int32) (h : Hp) : Option (Int32) :=
  bd (K_River_kindOf x1 h) <| fun v18 => if v18 = 2 then ( K_River_pushed_J33 N x4 y0 0 h) else ( K_River_pushed_J33 N x4 y0 (if 0 ≤ x3 then x3 else 0 - x3) h)
def K_River_pushed (N : Nat) (a0 : Int32) (b0 : Int32) (c0 : Int32) (h : Hp) : Option (Int32) :=
   if 0 ≤ c0 then ( K_River_pushed_J14 N a0 c0 a0 b0 h) else ( K_River_pushed_J14 N a0 c0 a0 (b0 + 4) h)
def K_River_blown (a0 : Int32) (h : Hp) : Option (Int32) :=
   if (h 10 10) = (-1) then ( some a0) else (bd (K_River_neighbour a0 (2 * (h 10 10)) h) <| fun v20 => some v20)
def K_Search_forget (h : Hp) : Option (Hp) :=
  nm (hset h 40 6 (-1)) <| fun h2 => some h2
def K_Search_reach (a0 : Int32) (b0 : Int32) (h : Hp) : Option (Int32 × Hp) :=
   if a0 < 0 then ( some (0, h)) else ( if 3456 ≤ a0 then ( some (0, h)) else (gA 3456 (h 41) a0 <| fun v18 => if v18 = (-1) then ( if (h 40 3) < 3456 then (sA 3456 a0 <| nm (hset h 41 (Int32.toNatClampNeg a0) b0) <| fun h43 => sA 3456 (h43 40 3) <| nm (hset h43 42 (Int32.toNatClampNeg (h43 40 3)) a0) <| fun h53 => nm (hset h53 40 3 ((h53 40 3) + 1)) <| fun h61 => some (1, h61)) else ( some (0, h))) else ( some (0, h))))
def K_Search_spread_J56 (N : Nat) (x3 : Int32) (x5 : Int32) (x6 : Int32) (h : Hp) : Option ((Int32 × Hp) ⊕ (Hp) ⊕ (Hp)) :=
  nm ((x6 + (if 1 < x5 then x5 else 1))) <| fun v65 => some (.inl (v65, h))
def K_Search_spread_L4 (N : Nat) (x3 : Int32) (x5 : Int32) (x6 : Int32) (h : Hp) : Option ((Int32 × Hp) ⊕ (Hp) ⊕ (Hp)) :=
   if 16 ≤ x6 then ( some (.inr (.inr h))) else (bd (K_Crew_after x3 x6 h) <| fun v15 => bd2 (K_Search_reach v15 ((x3 * 16) + x6) h) <| fun v30 h30 => if v30 = 0 then ( K_Search_spread_J56 N x3 x5 x6 h30) else (bd (K_River_isGoal (rm32 v15 384) h30) <| fun v43 => if v43 = 0 then ( K_Search_spread_J56 N x3 x5 x6 h30) else (nm (hset h30 40 4 v15) <| fun h52 => some (.inr (.inl h52)))))
def K_Search_spread (N : Nat) (c0 : Int32) (d0 : Int32) (e0 : Int32) (h : Hp) : Option (Hp) :=
  bd (loopN (fun z_ : Int32 × Hp => K_Search_spread_L4 N c0 e0 z_.1 z_.2) N (d0, h)) <| fun t4 => el t4 (fun r_ => some r_) (fun t4x =>  some t4x)
def K_Search_tellRow_J48 (N : Nat) (x2 : Int32) (y0 : Int32) (h : Hp) : Option ((Int32 × Int32 × Hp) ⊕ (Hp)) :=
  sA 60 x2 <| nm (hset h 43 (Int32.toNatClampNeg x2) (rm32 y0 16)) <| fun h58 => nm ((y0 / 16)) <| fun v63 => nm (x2 + (-1)) <| fun v64 => some (.inl (v63, v64, h58))
def K_Search_tellRow_J47 (N : Nat) (x2 : Int32) (h : Hp) : Option ((Int32 × Int32 × Hp) ⊕ (Hp)) :=
   K_Search_tellRow_J48 N x2 0 h
def K_Search_tellRow_L12 (N : Nat) (x1 : Int32) (x2 : Int32) (h : Hp) : Option ((Int32 × Int32 × Hp) ⊕ (Hp)) :=
   if x2 < 0 then ( some (.inr h)) else ( if 60 ≤ x2 then ( some (.inr h)) else ( if x1 < 0 then ( K_Search_tellRow_J47 N x2 h) else ( if 3456 ≤ x1 then ( K_Search_tellRow_J47 N x2 h) else (gA 3456 (h 41) x1 <| fun v43 => K_Search_tellRow_J48 N x2 v43 h))))
def K_Search_tellRow (N : Nat) (h : Hp) : Option (Hp) :=
  nm ((h 40 4)) <| fun v4 => nm (((h 40 5) - 1)) <| fun v11 => bd (loopN (fun z_ : Int32 × Int32 × Hp => K_Search_tellRow_L12 N z_.1 z_.2.1 z_.2.2) N (v4, v11, h)) <| fun t12 =>  some t12
def K_Search_spreadAll_L31 (N : Nat) (x3 : Int32) (x4 : Int32) (x6 : Int32) (x7 : Int32) (x8 : Int32) (h : Hp) : Option ((Int32 × Hp) ⊕ (Hp)) :=
   if x7 ≤ x8 then ( some (.inr h)) else ( if 3456 ≤ x8 then ( some (.inr h)) else ( if (h 40 4) = (-1) then (gA 3456 (h 42) x8 <| fun v65 => bd (K_Search_spread N v65 x3 x4 h) <| fun h69 => nm (x8 + 1) <| fun v72 => some (.inl (v72, h69))) else ( some (.inr h))))
def K_Search_spreadAll_J78 (N : Nat) (x3 : Int32) (x4 : Int32) (x6 : Int32) (x7 : Int32) (h : Hp) : Option ((Int32 × Int32 × Hp) ⊕ (Hp)) :=
   if (h 40 4) = (-1) then (nm (x6 + 1) <| fun v100 => some (.inl (x7, v100, h))) else (nm (hset h 40 5 x6) <| fun h93 => bd (K_Search_tellRow N h93) <| fun h97 => nm (x6 + 1) <| fun v100 => some (.inl (x7, v100, h97)))
def K_Search_spreadAll_L6 (N : Nat) (x3 : Int32) (x4 : Int32) (x5 : Int32) (x6 : Int32) (h : Hp) : Option ((Int32 × Int32 × Hp) ⊕ (Hp)) :=
   if 60 < x6 then ( some (.inr h)) else ( if (h 40 4) = (-1) then (nm ((h 40 3)) <| fun v25 => bd (loopN (fun z_ : Int32 × Hp => K_Search_spreadAll_L31 N x3 x4 x6 v25 z_.1 z_.2) N (x5, h)) <| fun t31 =>  K_Search_spreadAll_J78 N x3 x4 x6 v25 t31) else ( some (.inr h)))
def K_Search_spreadAll (N : Nat) (c0 : Int32) (d0 : Int32) (h : Hp) : Option (Hp) :=
  bd (loopN (fun z_ : Int32 × Int32 × Hp => K_Search_spreadAll_L6 N c0 d0 z_.1 z_.2.1 z_.2.2) N (0, 1, h)) <| fun t6 =>  some t6
def K_Search_look_J112 (N : Nat) (y3 : Int32) (y4 : Int32) (h : Hp) : Option (Hp) :=
  bd (K_Search_spreadAll N y3 y4 h) <| fun h112 => some h112
def K_Search_look_J100 (N : Nat) (x4 : Int32) (y3 : Int32) (h : Hp) : Option (Hp) :=
   if x4 = 10 then ( K_Search_look_J112 N y3 4 h) else ( K_Search_look_J112 N y3 1 h)
def K_Search_look (N : Nat) (c0 : Int32) (d0 : Int32) (h : Hp) : Option (Hp) :=
  nm (((c0 * 11) + d0)) <| fun v7 => if v7 = (h 40 6) then ( some h) else (nm (hset h 40 6 v7) <| fun h22 => nm (hset h22 40 5 (-1)) <| fun h27 => nm (hset h27 40 4 (-1)) <| fun h32 => if (h32 10 8) = (-1) then ( some h32) else (bd (K_River_isGoal (rm32 c0 384) h32) <| fun v50 => if v50 = 0 then (nm (hrow h32 41 (filled 3456 (h32 41) (-1))) <| fun h67 => nm (hset h67 40 3 0) <| fun h72 => bd2 (K_Search_reach c0 (c0 * 16) h72) <| fun v81 h81 => if d0 = 10 then ( K_Search_look_J100 N d0 3 h81) else ( K_Search_look_J100 N d0 0 h81)) else (nm (hset h32 40 5 0) <| fun h58 => some h58)))
def K_Search_pairAt (a0 : Int32) (h : Hp) : Option (Int32) :=
   if a0 < 0 then ( some (-1)) else ( if (h 40 5) ≤ a0 then ( some (-1)) else ( if 60 ≤ a0 then ( some (-1)) else (gA 60 (h 43) a0 <| fun v26 => some v26)))
def K_Waters_chart_L14 (N : Nat) (x2 : Int32) (h : Hp) : Option ((Int32 × Hp) ⊕ (Hp)) :=
   if 48 ≤ x2 then ( some (.inr h)) else (bd (K_River_blown x2 h) <| fun v30 => sA 48 x2 <| nm (hset h 17 (Int32.toNatClampNeg x2) v30) <| fun h33 => nm (x2 + 1) <| fun v34 => some (.inl (v34, h33)))
def K_Waters_chart_L42 (N : Nat) (x2 : Int32) (h : Hp) : Option ((Int32 × Hp) ⊕ (Hp)) :=
   if 1920 ≤ x2 then ( some (.inr h)) else (nm ((x2 / 5)) <| fun v54 => bd (K_River_pushed N (v54 / 8) (rm32 v54 8) ((rm32 x2 5) - 2) h) <| fun v74 => sA 1920 x2 <| nm (hset h 16 (Int32.toNatClampNeg x2) v74) <| fun h77 => nm (x2 + 1) <| fun v78 => some (.inl (v78, h77)))
def K_Waters_chart (N : Nat) (h : Hp) : Option (Hp) :=
  nm (hset h 15 2 (if 1 < (h 10 11) then (h 10 11) else 1)) <| fun h9 => bd (loopN (fun z_ : Int32 × Hp => K_Waters_chart_L14 N z_.1 z_.2) N (0, h9)) <| fun t14 => bd (loopN (fun z_ : Int32 × Hp => K_Waters_chart_L42 N z_.1 z_.2) N (0, t14)) <| fun t42 =>  some t42
def K_C_isOutside_J10 : Option (Int32) :=
   some 1
def K_C_isOutside (a0 : Int32) (b0 : Int32) (c0 : Int32) : Option (Int32) :=
   if a0 < b0 then ( K_C_isOutside_J10) else ( if a0 ≤ c0 then ( some 0) else ( K_C_isOutside_J10))
def K_C_feed (a0 : Int32) (h : Hp) : Option (Int32 × Hp) :=
  bd (K_C_isOutside a0 0 255) <| fun v5 => if v5 = 0 then ( if (h 0 1) < 0 then ( some ((-1000000004), h)) else ( if (h 0 1) < 250 then (sA 250 (h 0 1) <| nm (hset h 2 (Int32.toNatClampNeg (h 0 1)) a0) <| fun h45 => nm (hset h45 0 1 ((h45 0 1) + 1)) <| fun h53 => some ((h53 0 1), h53)) else ( some ((-1000000004), h)))) else ( some ((-1000000002), h))
def K_C_fault (h : Hp) : Option (Int32) :=
   some (h 0 2)
def K_C_toldOfText (a0 : Int32) (h : Hp) : Option (Int32) :=
   if a0 = 0 then ( some (h 10 0)) else ( if a0 = 1 then ( some (h 10 1)) else ( if a0 = 2 then ( some (h 10 3)) else ( if a0 = 3 then ( some (h 10 4)) else ( if a0 = 4 then ( some (h 10 5)) else ( if a0 = 5 then ( some (h 10 6)) else ( some (h 0 1)))))))
def K_C_placeOf (a0 : Int32) : Option (Int32) :=
   some ((10 * (rm32 a0 8)) + (a0 / 8))
def K_C_toldOfTrip (a0 : Int32) (h : Hp) : Option (Int32) :=
   if a0 = 7 then (bd (K_C_placeOf ((h 30 0) / 8)) <| fun v50 => some v50) else ( if a0 = 8 then (bd (K_C_headingOf (h 30 0)) <| fun v61 => some v61) else ( if a0 = 9 then ( some (h 30 1)) else ( if a0 = 10 then ( if (h 10 8) = (-1) then ( some (-1)) else (bd (K_C_placeOf (h 10 8)) <| fun v95 => some v95)) else ( if a0 = 11 then ( some (h 10 9)) else ( if a0 = 12 then ( some (h 10 10)) else ( some (h 10 11)))))))
def K_C_toldOfCounts (a0 : Int32) (h : Hp) : Option (Int32) :=
   if a0 = 14 then (bd (K_River_isGoal (h 30 0) h) <| fun v39 => if v39 = 0 then ( some 0) else ( some 1)) else ( if a0 = 15 then ( some (h 60 4)) else ( if a0 = 16 then ( some (h 60 5)) else ( some (h 35 2))))
def K_C_told (a0 : Int32) (h : Hp) : Option (Int32) :=
  bd (K_C_isOutside a0 0 17) <| fun v4 => if v4 = 0 then ( if 7 ≤ a0 then ( if 14 ≤ a0 then (bd (K_C_toldOfCounts a0 h) <| fun v43 => some v43) else (bd (K_C_toldOfTrip a0 h) <| fun v35 => some v35)) else (bd (K_C_toldOfText a0 h) <| fun v21 => some v21)) else ( some (-1000000002))
def K_C_square (a0 : Int32) (b0 : Int32) (h : Hp) : Option (Int32) :=
  bd (K_River_has a0 b0 h) <| fun v6 => if v6 = 0 then ( some (-1000000001)) else (bd (K_River_kindOf ((b0 * 8) + a0) h) <| fun v22 => some v22)
def K_C_habit (a0 : Int32) (b0 : Int32) (h : Hp) : Option (Int32) :=
  bd (K_C_isOutside a0 0 1) <| fun v3 => if v3 = 0 then (bd (K_C_isOutside b0 0 3) <| fun v12 => if v12 = 0 then (bd (K_River_habitOf a0 b0 h) <| fun v27 => some v27) else ( some (-1000000002))) else ( some (-1000000002))
def K_C_noSquares (h : Hp) : Option (Int32) :=
   if (h 10 0) = 0 then ( some 1) else ( some 0)
def K_C_moment (h : Hp) : Option (Int32) :=
  bd (K_Waters_timeBehind (h 30 1) h) <| fun v11 => some ((v11 * 384) + (h 30 0))
def K_C_paddle (a0 : Int32) (h : Hp) : Option (Hp) :=
  bd (K_C_moment h) <| fun v5 => bd (K_Crew_after v5 a0 h) <| fun v9 => bd (K_Log_add (h 30 0) h) <| fun h24 => nm (mx [35, 36] h24 h) <| fun h24m => nm (hset h24m 30 0 (rm32 v9 384)) <| fun h36 => nm (hset h36 30 1 ((h36 30 1) + 1)) <| fun h49 => some h49
def K_C_stroke (a0 : Int32) (b0 : Int32) (h : Hp) : Option (Int32 × Hp) :=
  bd (K_C_isOutside a0 0 3) <| fun v3 => if v3 = 0 then (bd (K_C_isOutside b0 0 3) <| fun v12 => if v12 = 0 then (bd (K_C_noSquares h) <| fun v22 => if v22 = 0 then (bd (K_C_paddle ((4 * a0) + b0) h) <| fun h37 => bd (K_C_placeOf ((h37 30 0) / 8)) <| fun v50 => some (v50, h37)) else ( some ((-1000000003), h))) else ( some ((-1000000002), h))) else ( some ((-1000000002), h))
def K_C_would (a0 : Int32) (b0 : Int32) (c0 : Int32) (h : Hp) : Option (Int32) :=
  bd (K_C_isOutside a0 0 3) <| fun v3 => if v3 = 0 then (bd (K_C_isOutside b0 0 3) <| fun v12 => if v12 = 0 then (bd (K_C_isOutside c0 0 3) <| fun v21 => if v21 = 0 then (bd (K_C_noSquares h) <| fun v31 => if v31 = 0 then (nm (((4 * a0) + b0)) <| fun v45 => if c0 = 0 then (bd (K_C_moment h) <| fun v81 => bd (K_Crew_after v81 v45 h) <| fun v86 => bd (K_C_squareOf v86) <| fun v89 => bd (K_C_placeOf v89) <| fun v92 => some v92) else ( if c0 = 1 then (bd (K_C_moment h) <| fun v101 => bd (K_Crew_after v101 v45 h) <| fun v106 => bd (K_C_headingOf v106) <| fun v109 => some v109) else ( if c0 = 2 then (bd (K_Crew_turnOf v45 h) <| fun v119 => some v119) else (bd (K_Crew_pushOf v45 h) <| fun v129 => some v129)))) else ( some (-1000000003))) else ( some (-1000000002))) else ( some (-1000000002))) else ( some (-1000000002))
def K_C_back (a0 : Int32) (h : Hp) : Option (Int32 × Hp) :=
  bd (K_C_isOutside a0 1 50) <| fun v4 => if v4 = 0 then ( if a0 ≤ (h 35 2) then (bd2 (K_Log_takeBack a0 h) <| fun v36 h36 => nm (mx [35, 36] h36 h) <| fun h36m => nm (hset h36m 30 0 v36) <| fun h39 => nm (hset h39 30 1 ((h39 30 1) - a0)) <| fun h52 => some ((h52 30 1), h52)) else ( some ((-1000000003), h))) else ( some ((-1000000002), h))
def K_C_set (a0 : Int32) (b0 : Int32) (c0 : Int32) (h : Hp) : Option (Int32 × Hp) :=
  bd (K_River_has a0 b0 h) <| fun v6 => if v6 = 0 then ( some ((-1000000001), h)) else (bd (K_C_isOutside c0 0 7) <| fun v19 => if v19 = 0 then (nm (((b0 * 8) + a0)) <| fun v34 => bd (K_River_kindOf v34 h) <| fun v42 => if v42 = 1 then ( some ((-1000000003), h)) else (bd (K_C_placeOf ((h 30 0) / 8)) <| fun v62 => nm (hset h 30 0 ((v34 * 8) + c0)) <| fun h78 => some (v62, h78))) else ( some ((-1000000002), h)))
def K_C_drift_L25 (N : Nat) (x1 : Int32) (x2 : Int32) (h : Hp) : Option ((Int32 × Hp) ⊕ (Hp)) :=
   if x1 ≤ x2 then ( some (.inr h)) else (bd2 (K_Boat_draw 16 h) <| fun v37 h37 => nm (mx [30] h37 h) <| fun h37m => bd (K_C_paddle v37 h37m) <| fun h40 => nm (x2 + 1) <| fun v43 => some (.inl (v43, h40)))
def K_C_drift (N : Nat) (a0 : Int32) (h : Hp) : Option (Int32 × Hp) :=
  bd (K_C_isOutside a0 1 99) <| fun v4 => if v4 = 0 then (bd (K_C_noSquares h) <| fun v14 => if v14 = 0 then (bd (loopN (fun z_ : Int32 × Hp => K_C_drift_L25 N a0 z_.1 z_.2) N (0, h)) <| fun t25 => bd (K_C_placeOf ((t25 30 0) / 8)) <| fun v59 => some (v59, t25)) else ( some ((-1000000003), h))) else ( some ((-1000000002), h))
def K_C_fewest (N : Nat) (a0 : Int32) (h : Hp) : Option (Int32 × Hp) :=
  bd (K_C_noSquares h) <| fun v1 => if v1 = 0 then (bd (K_C_moment h) <| fun v23 => bd (K_Search_look N v23 0 h) <| fun h27 => nm (mx [40, 41, 42, 43, 10, 11, 12, 20, 21, 22, 15, 16, 17] h27 h) <| fun h27m => if a0 = (-1) then ( some ((h27m 40 5), h27m)) else (bd (K_Search_pairAt a0 h27m) <| fun v50 => some (v50, h27m))) else ( some ((-1000000003), h))
def K_C_calls (N : Nat) (a0 : Int32) (b0 : Int32) (h : Hp) : Option (Int32 × Hp) :=
  bd (K_C_isOutside a0 0 15) <| fun v4 => if v4 = 0 then (bd (K_C_isOutside b0 0 1) <| fun v13 => if v13 = 0 then (bd (K_C_noSquares h) <| fun v23 => if v23 = 0 then (bd (K_C_moment h) <| fun v45 => bd (K_Calling_look N v45 a0 h) <| fun h49 => nm (mx [45, 46, 47, 48, 49, 10, 11, 12, 20, 21, 22, 15, 16, 17] h49 h) <| fun h49m => if b0 = 0 then ( some ((h49m 45 6), h49m)) else ( some ((h49m 45 7), h49m))) else ( some ((-1000000003), h))) else ( some ((-1000000002), h))) else ( some ((-1000000002), h))
def K_C_afterSilently (a0 : Int32) (h : Hp) : Option (Int32) :=
  nm ((rm32 a0 16)) <| fun v4 => bd (K_River_habitOf 0 (rm32 v4 4) h) <| fun v13 => bd (K_River_habitOf 1 (v4 / 4) h) <| fun v25 => bd (K_Crew_after (a0 / 16) v4 h) <| fun v39 => some (((v39 * 16) + (4 * v13)) + v25)
def K_C_mute_L56 (N : Nat) (x2 : Int32) (x3 : Int32) (x4 : Int32) (x5 : Int32) (h : Hp) : Option ((Int32 × Int32) ⊕ (Int32)) :=
   if x2 ≤ x5 then ( some (.inr x4)) else (bd (K_C_afterSilently x4 h) <| fun v65 => nm (x5 + 1) <| fun v70 => some (.inl (v65, v70)))
def K_C_mute (N : Nat) (a0 : Int32) (b0 : Int32) (c0 : Int32) (h : Hp) : Option (Int32) :=
  bd (K_C_isOutside a0 0 15) <| fun v4 => if v4 = 0 then (bd (K_C_isOutside b0 0 99) <| fun v14 => if v14 = 0 then (bd (K_C_isOutside c0 0 2) <| fun v23 => if v23 = 0 then (bd (K_C_noSquares h) <| fun v33 => if v33 = 0 then (bd (K_C_moment h) <| fun v43 => nm (((v43 * 16) + a0)) <| fun v51 => bd (loopN (fun z_ : Int32 × Int32 => K_C_mute_L56 N b0 c0 z_.1 z_.2 h) N (v51, 0)) <| fun t56 =>  if c0 = 0 then (bd (K_C_squareOf (t56 / 16)) <| fun v109 => bd (K_C_placeOf v109) <| fun v112 => some v112) else ( if c0 = 1 then (bd (K_C_headingOf (t56 / 16)) <| fun v121 => some v121) else ( some (rm32 t56 16)))) else ( some (-1000000003))) else ( some (-1000000002))) else ( some (-1000000002))) else ( some (-1000000002))
def K_C_loopFrom_J48 (N : Nat) (x2 : Int32) (x3 : Int32) (x4 : Int32) (x5 : Int32) (x6 : Int32) (h : Hp) : Option ((Int32 × Int32 × Int32 × Int32 × Int32) ⊕ (Int32)) :=
  bd (K_C_afterSilently x3 h) <| fun v50 => nm (x4 + 1) <| fun v54 => nm (x6 + 1) <| fun v57 => some (.inl (x2, v50, v54, x5, v57))
def K_C_loopFrom_L17 (N : Nat) (x2 : Int32) (x3 : Int32) (x4 : Int32) (x5 : Int32) (x6 : Int32) (h : Hp) : Option ((Int32 × Int32 × Int32 × Int32 × Int32) ⊕ (Int32)) :=
   if 1000000 ≤ x6 then ( some (.inr x4)) else ( if x2 = x3 then ( some (.inr x4)) else ( if x4 = x5 then (nm ((x5 * 2)) <| fun v43 => K_C_loopFrom_J48 N x3 x3 0 v43 x6 h) else ( K_C_loopFrom_J48 N x2 x3 x4 x5 x6 h)))
def K_C_loopFrom (N : Nat) (a0 : Int32) (h : Hp) : Option (Int32) :=
  bd (K_C_afterSilently a0 h) <| fun v4 => bd (loopN (fun z_ : Int32 × Int32 × Int32 × Int32 × Int32 => K_C_loopFrom_L17 N z_.1 z_.2.1 z_.2.2.1 z_.2.2.2.1 z_.2.2.2.2 h) N (a0, v4, 1, 1, 0)) <| fun t17 =>  some t17
def K_C_leadFrom_L8 (N : Nat) (x2 : Int32) (x3 : Int32) (x4 : Int32) (x5 : Int32) (h : Hp) : Option ((Int32 × Int32) ⊕ (Int32)) :=
   if x2 ≤ x5 then ( some (.inr x4)) else (bd (K_C_afterSilently x4 h) <| fun v17 => nm (x5 + 1) <| fun v22 => some (.inl (v17, v22)))
def K_C_leadFrom_L31 (N : Nat) (x3 : Int32) (x4 : Int32) (x5 : Int32) (h : Hp) : Option ((Int32 × Int32 × Int32) ⊕ (Int32)) :=
   if 1000000 ≤ x5 then ( some (.inr x5)) else ( if x3 = x4 then ( some (.inr x5)) else (bd (K_C_afterSilently x3 h) <| fun v47 => bd (K_C_afterSilently x4 h) <| fun v54 => nm (x5 + 1) <| fun v59 => some (.inl (v47, v54, v59))))
def K_C_leadFrom (N : Nat) (a0 : Int32) (b0 : Int32) (h : Hp) : Option (Int32) :=
  bd (loopN (fun z_ : Int32 × Int32 => K_C_leadFrom_L8 N b0 a0 z_.1 z_.2 h) N (a0, 0)) <| fun t8 => bd (loopN (fun z_ : Int32 × Int32 × Int32 => K_C_leadFrom_L31 N z_.1 z_.2.1 z_.2.2 h) N (a0, t8, 0)) <| fun t31 =>  some t31
def K_C_round (N : Nat) (a0 : Int32) (b0 : Int32) (h : Hp) : Option (Int32) :=
  bd (K_C_isOutside a0 0 15) <| fun v4 => if v4 = 0 then (bd (K_C_isOutside b0 0 1) <| fun v13 => if v13 = 0 then (bd (K_C_noSquares h) <| fun v23 => if v23 = 0 then (bd (K_C_moment h) <| fun v33 => nm (((v33 * 16) + a0)) <| fun v41 => bd (K_C_loopFrom N v41 h) <| fun v44 => if b0 = 0 then (bd (K_C_leadFrom N v41 v44 h) <| fun v57 => some v57) else ( some v44)) else ( some (-1000000003))) else ( some (-1000000002))) else ( some (-1000000002))
def K_C_offStraight_J82 (N : Nat) (x1 : Int32) (x2 : Int32) (x3 : Int32) (x4 : Int32) (x6 : Int32) (y0 : Int32) (y1 : Int32) (y2 : Int32) (h : Hp) : Option ((Int32 × Int32 × Int32) ⊕ (Int32)) :=
  nm ((y0 + (y1 * y2))) <| fun v84 => nm (x6 + 1) <| fun v86 => some (.inl (x4, v84, v86))
def K_C_offStraight_J34 (N : Nat) (x1 : Int32) (x2 : Int32) (x3 : Int32) (x4 : Int32) (x5 : Int32) (x6 : Int32) (y0 : Int32) (h : Hp) : Option ((Int32 × Int32 × Int32) ⊕ (Int32)) :=
  bd (K_Crew_turnOf y0 h) <| fun v44 => nm (((x4 + v44) &&& 7)) <| fun v51 => bd (K_Crew_pushOf y0 h) <| fun v61 => if x3 = 0 then (bd (K_C_southOf v51) <| fun v78 => K_C_offStraight_J82 N x1 x2 x3 v51 x6 x5 v61 (-v78) h) else (bd (K_C_eastOf v51) <| fun v70 => K_C_offStraight_J82 N x1 x2 x3 v51 x6 x5 v61 v70 h)
def K_C_offStraight_J33 (N : Nat) (x1 : Int32) (x2 : Int32) (x3 : Int32) (x4 : Int32) (x5 : Int32) (x6 : Int32) (h : Hp) : Option ((Int32 × Int32 × Int32) ⊕ (Int32)) :=
   K_C_offStraight_J34 N x1 x2 x3 x4 x5 x6 0 h
def K_C_offStraight_L9 (N : Nat) (x1 : Int32) (x2 : Int32) (x3 : Int32) (x4 : Int32) (x5 : Int32) (x6 : Int32) (h : Hp) : Option ((Int32 × Int32 × Int32) ⊕ (Int32)) :=
   if x2 ≤ x6 then ( some (.inr x5)) else ( if x1 ≤ 0 then ( K_C_offStraight_J33 N x1 x2 x3 x4 x5 x6 h) else (dz x1 <| if (rm32 (x6 / x1) 2) = 1 then ( K_C_offStraight_J34 N x1 x2 x3 x4 x5 x6 5 h) else ( K_C_offStraight_J33 N x1 x2 x3 x4 x5 x6 h)))
def K_C_offStraight (N : Nat) (a0 : Int32) (b0 : Int32) (c0 : Int32) (h : Hp) : Option (Int32) :=
  bd (loopN (fun z_ : Int32 × Int32 × Int32 => K_C_offStraight_L9 N a0 b0 c0 z_.1 z_.2.1 z_.2.2 h) N (0, 0, 0)) <| fun t9 =>  some t9
def K_C_off_J44 (N : Nat) (y1 : Int32) (y2 : Int32) (y3 : Int32) (h : Hp) : Option (Int32) :=
  bd (K_C_offStraight N y1 y2 y3 h) <| fun v44 => some v44
def K_C_off (N : Nat) (a0 : Int32) (b0 : Int32) (c0 : Int32) (h : Hp) : Option (Int32) :=
  bd (K_C_isOutside a0 1 99) <| fun v4 => if v4 = 0 then (bd (K_C_isOutside b0 1 99) <| fun v14 => if v14 = 0 then (bd (K_C_isOutside c0 0 1) <| fun v23 => if v23 = 0 then ( if c0 = 0 then ( K_C_off_J44 N a0 b0 1 h) else ( K_C_off_J44 N a0 b0 0 h)) else ( some (-1000000002))) else ( some (-1000000002))) else ( some (-1000000002))
def K_C_best_J73 (N : Nat) (x1 : Int32) (x3 : Int32) (h : Hp) : Option ((Int32 × Int32) ⊕ (Int32)) :=
  nm (x3 + 1) <| fun v75 => some (.inl (x3, v75))
def K_C_best_L17 (N : Nat) (x1 : Int32) (x2 : Int32) (x3 : Int32) (h : Hp) : Option ((Int32 × Int32) ⊕ (Int32)) :=
   if 9 < x3 then ( some (.inr x2)) else (bd (K_C_offStraight N x3 x1 1 h) <| fun v27 => bd (K_C_offStraight N x2 x1 1 h) <| fun v37 => nm (((if 0 ≤ v27 then v27 else 0 - v27) - (if 0 ≤ v37 then v37 else 0 - v37))) <| fun v44 => if v44 < 0 then ( K_C_best_J73 N x1 x3 h) else ( if v44 = 0 then (bd (K_C_offStraight N x3 x1 0 h) <| fun v60 => bd (K_C_offStraight N x2 x1 0 h) <| fun v67 => if v60 ≤ v67 then (nm (x3 + 1) <| fun v75 => some (.inl (x2, v75))) else ( K_C_best_J73 N x1 x3 h)) else (nm (x3 + 1) <| fun v75 => some (.inl (x2, v75)))))
def K_C_best (N : Nat) (a0 : Int32) (h : Hp) : Option (Int32) :=
  bd (K_C_isOutside a0 1 99) <| fun v4 => if v4 = 0 then (bd (loopN (fun z_ : Int32 × Int32 => K_C_best_L17 N a0 z_.1 z_.2 h) N (1, 2)) <| fun t17 =>  some t17) else ( some (-1000000002))
def K_C_pairOfRow (a0 : Int32) (b0 : Int32) (c0 : Int32) : Option (Int32) :=
   some ((a0 >>> ((4 * ((b0 - 1) - c0)) &&& 31)) &&& 15)
def K_C_stillRow_L22 (N : Nat) (x1 : Int32) (x2 : Int32) (x3 : Int32) (x4 : Int32) (x5 : Int32) (h : Hp) : Option ((Int32 × Int32) ⊕ (Int32)) :=
   if x1 ≤ x5 then ( some (.inr x4)) else (bd (K_C_pairOfRow x3 x1 x5) <| fun v38 => bd (K_Crew_after x4 v38 h) <| fun v41 => nm (x5 + 1) <| fun v46 => some (.inl (v41, v46)))
def K_C_stillRow_L8 (N : Nat) (x1 : Int32) (x2 : Int32) (x3 : Int32) (h : Hp) : Option ((Int32) ⊕ (Int32) ⊕ (Unit)) :=
   if x2 ≤ x3 then ( some (.inr (.inr ()))) else (bd (K_C_moment h) <| fun v14 => bd (loopN (fun z_ : Int32 × Int32 => K_C_stillRow_L22 N x1 x2 x3 z_.1 z_.2 h) N (v14, 0)) <| fun t22 =>  if (rm32 t22 384) = (h 30 0) then ( some (.inr (.inl x3))) else (nm (x3 + 1) <| fun v70 => some (.inl v70)))
def K_C_stillRow (N : Nat) (a0 : Int32) (h : Hp) : Option (Int32) :=
  nm ((1 <<< ((4 * a0) &&& 31))) <| fun v5 => bd (loopN (fun z_ : Int32 => K_C_stillRow_L8 N a0 v5 z_ h) N 0) <| fun t8 => el t8 (fun r_ => some r_) (fun t8x =>  some (-1))
def K_C_still_J46 (N : Nat) (h : Hp) : Option ((Int32) ⊕ (Int32) ⊕ (Unit)) :=
   some (.inr (.inl (-1)))
def K_C_still_L12 (N : Nat) (x1 : Int32) (x2 : Int32) (h : Hp) : Option ((Int32) ⊕ (Int32) ⊕ (Unit)) :=
   if 3 < x2 then ( some (.inr (.inr ()))) else (bd (K_C_stillRow N x2 h) <| fun v19 => if v19 = (-1) then (nm (x2 + 1) <| fun v57 => some (.inl v57)) else ( if x1 = (-1) then ( some (.inr (.inl x2))) else ( if x1 < 0 then ( K_C_still_J46 N h) else ( if x1 < x2 then (bd (K_C_pairOfRow v19 x2 x1) <| fun v53 => some (.inr (.inl v53))) else ( K_C_still_J46 N h)))))
def K_C_still (N : Nat) (a0 : Int32) (h : Hp) : Option (Int32) :=
  bd (K_C_noSquares h) <| fun v1 => if v1 = 0 then (bd (loopN (fun z_ : Int32 => K_C_still_L12 N a0 z_ h) N 1) <| fun t12 => el t12 (fun r_ => some r_) (fun t12x =>  some (-1))) else ( some (-1000000003))
def K_C_surely (N : Nat) (a0 : Int32) (h : Hp) : Option (Int32 × Hp) :=
  bd (K_C_isOutside a0 0 1) <| fun v3 => if v3 = 0 then (bd (K_C_noSquares h) <| fun v13 => if v13 = 0 then (bd (K_Gusts_look N (h 30 0) h) <| fun h41 => nm (mx [55, 56, 10, 11, 12, 20, 21, 22, 15, 16, 17] h41 h) <| fun h41m => if a0 = 0 then ( some ((h41m 55 1), h41m)) else ( some ((h41m 55 2), h41m))) else ( some ((-1000000003), h))) else ( some ((-1000000002), h))
def K_C_alone (N : Nat) (h : Hp) : Option (Int32 × Hp) :=
  bd (K_C_noSquares h) <| fun v1 => if v1 = 0 then (bd (K_C_moment h) <| fun v23 => bd (K_Search_look N v23 10 h) <| fun h28 => nm (mx [40, 41, 42, 43, 10, 11, 12, 20, 21, 22, 15, 16, 17] h28 h) <| fun h28m => some ((h28m 40 5), h28m)) else ( some ((-1000000003), h))
def K_C_byRule (a0 : Int32) (b0 : Int32) : Option (Int32) :=
   if a0 = 0 then ( some 0) else ( if a0 = 1 then ( some 1) else ( if a0 = 2 then ( some b0) else ( if b0 = 0 then ( some 1) else ( if b0 = 1 then ( some 0) else ( some b0)))))
def K_C_strokesByRules_L13 (N : Nat) (x1 : Int32) (x2 : Int32) (x3 : Int32) (x4 : Int32) (x5 : Int32) (h : Hp) : Option ((Int32 × Int32 × Int32 × Int32) ⊕ (Int32) ⊕ (Unit)) :=
   if 60 < x5 then ( some (.inr (.inr ()))) else (bd (K_River_isGoal (rm32 x2 384) h) <| fun v29 => if v29 = 0 then (bd (K_Crew_after x2 ((4 * x3) + x4) h) <| fun v49 => bd (K_C_byRule (x1 / 4) x4) <| fun v61 => bd (K_C_byRule (rm32 x1 4) x3) <| fun v70 => nm (x5 + 1) <| fun v75 => some (.inl (v49, v61, v70, v75))) else ( some (.inr (.inl x5))))
def K_C_strokesByRules (N : Nat) (a0 : Int32) (h : Hp) : Option (Int32) :=
  bd (K_C_moment h) <| fun v1 => bd (loopN (fun z_ : Int32 × Int32 × Int32 × Int32 => K_C_strokesByRules_L13 N a0 z_.1 z_.2.1 z_.2.2.1 z_.2.2.2 h) N (v1, 0, 0, 0)) <| fun t13 => el t13 (fun r_ => some r_) (fun t13x =>  some (-1))
def K_C_rules_J61 (N : Nat) (x1 : Int32) (x4 : Int32) (x5 : Int32) (h : Hp) : Option ((Int32 × Int32 × Int32) ⊕ (Int32 × Int32)) :=
  nm (x4 + 1) <| fun v67 => some (.inl (x5, x4, v67))
def K_C_rules_L29 (N : Nat) (x1 : Int32) (x2 : Int32) (x3 : Int32) (x4 : Int32) (h : Hp) : Option ((Int32 × Int32 × Int32) ⊕ (Int32 × Int32)) :=
   if 16 ≤ x4 then ( some (.inr (x2, x3))) else (bd (K_C_strokesByRules N x4 h) <| fun v39 => if v39 = (-1) then (nm (x4 + 1) <| fun v67 => some (.inl (x2, x3, v67))) else ( if x2 = (-1) then ( K_C_rules_J61 N x1 x4 v39 h) else ( if x2 ≤ v39 then (nm (x4 + 1) <| fun v67 => some (.inl (x2, x3, v67))) else ( K_C_rules_J61 N x1 x4 v39 h))))
def K_C_rules (N : Nat) (a0 : Int32) (h : Hp) : Option (Int32) :=
  bd (K_C_isOutside a0 0 2) <| fun v3 => if v3 = 0 then (bd (K_C_noSquares h) <| fun v13 => if v13 = 0 then (bd (loopN (fun z_ : Int32 × Int32 × Int32 => K_C_rules_L29 N a0 z_.1 z_.2.1 z_.2.2 h) N ((-1), (-1), 0)) <| fun t29 =>  if t29.1 = (-1) then ( some (-1)) else ( if a0 = 0 then ( some t29.1) else ( if a0 = 1 then ( some (t29.2 / 4)) else ( some (rm32 t29.2 4))))) else ( some (-1000000003))) else ( some (-1000000002))
def K_C_line (a0 : Int32) (b0 : Int32) (h : Hp) : Option (Int32 × Hp) :=
  bd (K_River_has a0 b0 h) <| fun v6 => if v6 = 0 then ( some ((-1000000001), h)) else (bd2 (K_Lines_addMark ((b0 * 8) + a0) h) <| fun v25 h25 => nm (mx [60, 61, 62, 63, 64, 20, 21, 22, 15, 16, 17] h25 h) <| fun h25m => if v25 = 0 then ( some ((-1000000004), h25m)) else ( some ((h25m 60 4), h25m)))
def K_C_fits (N : Nat) (a0 : Int32) (h : Hp) : Option (Int32 × Hp) :=
  bd (K_C_noSquares h) <| fun v1 => if v1 = 0 then (bd (K_C_moment h) <| fun v19 => bd (K_Lines_countWays N v19 h) <| fun h22 => nm (mx [60, 61, 62, 63, 64, 20, 21, 22, 15, 16, 17] h22 h) <| fun h22m => if a0 = (-1) then (bd (K_C_moment h22m) <| fun v36 => bd (K_Lines_waysFrom 0 v36 h22m) <| fun v39 => some (v39, h22m)) else (bd (K_C_moment h22m) <| fun v55 => bd (K_Lines_firstPairAt N a0 v55 h22m) <| fun v58 => some (v58, h22m))) else ( some ((-1000000003), h))
def K_C_gave (N : Nat) (a0 : Int32) (h : Hp) : Option (Int32 × Hp) :=
  bd (K_C_isOutside a0 0 1) <| fun v3 => if v3 = 0 then (bd (K_C_noSquares h) <| fun v13 => if v13 = 0 then (bd (K_C_moment h) <| fun v31 => bd (K_Lines_countWays N v31 h) <| fun h34 => nm (mx [60, 61, 62, 63, 64, 20, 21, 22, 15, 16, 17] h34 h) <| fun h34m => bd (K_C_moment h34m) <| fun v47 => bd (K_Lines_heldAlways N a0 v47 h34m) <| fun v50 => some (v50, h34m)) else ( some ((-1000000003), h))) else ( some ((-1000000002), h))
def K_C_write (a0 : Int32) (b0 : Int32) (c0 : Int32) (h : Hp) : Option (Int32 × Hp) :=
  bd (K_River_has b0 c0 h) <| fun v6 => if v6 = 0 then ( some ((-1000000001), h)) else (bd (K_C_isOutside a0 0 15) <| fun v19 => if v19 = 0 then (bd2 (K_Lines_addEntry a0 ((c0 * 8) + b0) h) <| fun v39 h39 => nm (mx [60, 61, 62, 63, 64, 20, 21, 22, 15, 16, 17] h39 h) <| fun h39m => if v39 = 0 then ( some ((-1000000004), h39m)) else ( some ((h39m 60 5), h39m))) else ( some ((-1000000002), h)))
def K_C_judge (N : Nat) (h : Hp) : Option (Int32) :=
  bd (K_C_noSquares h) <| fun v1 => if v1 = 0 then (bd (K_C_moment h) <| fun v19 => bd (K_Lines_firstWrong N v19 h) <| fun v22 => some v22) else ( some (-1000000003))
def K_C_tear (h : Hp) : Option (Int32 × Hp) :=
  nm (((h 60 4) + (h 60 5))) <| fun v15 => bd (K_Lines_empty h) <| fun h20 => nm (mx [60, 61, 62, 63, 64, 20, 21, 22, 15, 16, 17] h20 h) <| fun h20m => some (v15, h20m)
def K_C_seed (a0 : Int32) (h : Hp) : Option (Int32 × Hp) :=
  bd (K_C_isOutside a0 0 2147483647) <| fun v5 => if v5 = 0 then (nm ((h 30 2)) <| fun v21 => nm (hset h 30 2 a0) <| fun h27 => some (v21, h27)) else ( some ((-1000000002), h))
def K_Boat_become (h : Hp) : Option (Hp) :=
  nm (hset h 30 0 (h 31 0)) <| fun h5 => nm (hset h5 30 1 (h5 31 1)) <| fun h13 => nm (hset h13 30 2 (h13 31 2)) <| fun h21 => some h21
