/-! The functions of the methods, printed by my program out of the listing. -/
def fa_fill3_L5 (c1 : Int32) (c3 : Int32) : Nat → Int32 → wt_S → Option (wt_S)
  | 0, _, _ => none
  | n + 1, x2, s =>
    if c3 ≤ x2 then
        some s
      else
        wr_S s 3 2048 x2 c1 fun s13 =>
        fa_fill3_L5 c1 c3 n (x2 + 1) s13
def fa_fill3 (s : wt_S) (a2 : Int32) : Option (wt_S) :=
  fa_fill3_L5 a2 (2048 : Int32) 5000 (0 : Int32) s

def fa_fill7_L5 (c1 : Int32) (c3 : Int32) : Nat → Int32 → wt_S → Option (wt_S)
  | 0, _, _ => none
  | n + 1, x2, s =>
    if c3 ≤ x2 then
        some s
      else
        wr_S s 7 256 x2 c1 fun s13 =>
        fa_fill7_L5 c1 c3 n (x2 + 1) s13
def fa_fill7 (s : wt_S) (a2 : Int32) : Option (wt_S) :=
  fa_fill7_L5 a2 (256 : Int32) 5000 (0 : Int32) s

def fd_root (s : wt_S) (a1 : Int32) : Option (Int32) :=
  rd_ (s 0) 20 a1 fun v5 =>
    some v5

def fd_live (s : wt_S) : Option (Int32) :=
  some (s 9 0)

def fd_variableAt (s : wt_S) (a1 : Int32) : Option (Int32) :=
  rd_ (s 1) 8 a1 fun v5 =>
    some v5

def fd_clearMarks_L2 : Nat → Int32 → wt_S → Option (wt_S)
  | 0, _, _ => none
  | n + 1, x1, s =>
    if (s 9 1) ≤ x1 then
        some s
      else
        wr_S s 8 2048 x1 (vp_nar .boolean (0 : Int32)) fun s16 =>
        fd_clearMarks_L2 n (x1 + 1) s16
def fd_clearMarks (s : wt_S) : Option (wt_S) :=
  fd_clearMarks_L2 5000 (0 : Int32) s

def fd_mark : Nat → wt_S → Int32 → Int32 → Option (Int32 × wt_S)
  | 0, _, _, _ => none
  | n + 1, s, a1, a2 =>
    jn_ (fun (_ : Unit) =>
      some ((0 : Int32), s)) fun j20 =>
    if a1 ≤ (1 : Int32) then
      j20 ()
    else
      rd_ (s 8) 2048 a1 fun v10 =>
      if v10 = (0 : Int32) then
        if a2 < (8 : Int32) then
          wr_S s 8 2048 a1 (vp_nar .boolean (1 : Int32)) fun s28 =>
          rd_ (s28 4) 2048 a1 fun v36 =>
          b_IS (fd_mark n s28 v36 (a2 + (1 : Int32))) fun r40 s40 =>
          rd_ (s40 5) 2048 a1 fun v50 =>
          b_IS (fd_mark n s40 v50 (a2 + (1 : Int32))) fun r54 s54 =>
          some ((((1 : Int32) + r40) + r54), s54)
        else
          j20 ()
      else
        j20 ()

def fd_bucket (a1 : Int32) (a2 : Int32) (a3 : Int32) : Option (Int32) :=
  some (((a1 + ((37 : Int32) * a2)) + ((101 : Int32) * a3)) &&& (255 : Int32))

def fd_sweep_L12 (K : Int32 → wt_S → Option (wt_S)) : Nat → Int32 → Int32 → wt_S → Option (wt_S)
  | 0, _, _, _ => none
  | n + 1, x1, x2, s =>
    if (s 9 1) ≤ x2 then
        K x1 s
      else
        rd_ (s 8) 2048 x2 fun v25 =>
        jn_ (fun (x1_84 : Int32) (s_84 : wt_S) =>
          fd_sweep_L12 K n x1_84 (x2 + 1) s_84) fun j84 =>
        if v25 = (0 : Int32) then
          wr_S s 3 2048 x2 (-1 : Int32) fun s83 =>
          j84 x1 s83
        else
          rd_ (s 3) 2048 x2 fun v34 =>
          rd_ (s 4) 2048 x2 fun v40 =>
          rd_ (s 5) 2048 x2 fun v46 =>
          b_I (fd_bucket v34 v40 v46) fun r47 =>
          rd_ (s 7) 256 r47 fun v61 =>
          wr_S s 6 2048 x2 v61 fun s62 =>
          wr_S s62 7 256 r47 x2 fun s69 =>
          j84 (x2 + (1 : Int32)) s69
def fd_sweep (s : wt_S) : Option (wt_S) :=
  b_S (fa_fill7 s (0 : Int32)) fun s5 =>
    fd_sweep_L12 (fun (z1_12 : Int32) (s_12 : wt_S) =>
      sp_S s_12 1 z1_12 fun s92 =>
      sp_S s92 2 (2 : Int32) fun s97 =>
      some s97) 5000 (2 : Int32) (2 : Int32) s5

def fd_collect_L8 (K : Int32 → wt_S → Option (wt_S)) : Nat → Int32 → Int32 → wt_S → Option (wt_S)
  | 0, _, _, _ => none
  | n + 1, x1, x2, s =>
    if (20 : Int32) ≤ x2 then
        K x1 s
      else
        rd_ (s 0) 20 x2 fun v21 =>
        b_IS (fd_mark 9 s v21 (0 : Int32)) fun r23 s23 =>
        fd_collect_L8 K n (x1 + r23) (x2 + 1) s23
def fd_collect (s : wt_S) : Option (wt_S) :=
  b_S (fd_clearMarks s) fun s1 =>
    fd_collect_L8 (fun (z1_8 : Int32) (s_8 : wt_S) =>
      sp_S s_8 0 z1_8 fun s36 =>
      b_S (fd_sweep s36) fun s40 =>
      some s40) 5000 (0 : Int32) (0 : Int32) s1

def fd_keep_L10 (K : wt_S → Option (wt_S)) : Nat → Int32 → wt_S → Option (wt_S)
  | 0, _, _ => none
  | n + 1, x3, s =>
    if (20 : Int32) ≤ x3 then
        K s
      else
        wr_S s 0 20 x3 (0 : Int32) fun s22 =>
        fd_keep_L10 K n (x3 + 1) s22
def fd_keep (s : wt_S) (a1 : Int32) (a2 : Int32) : Option (wt_S) :=
  wr_S s 0 20 a1 a2 fun s6 =>
    fd_keep_L10 (fun (s_10 : wt_S) =>
      b_S (fd_collect s_10) fun s30 =>
      some s30) 5000 (16 : Int32) s6

def fd_hold (s : wt_S) (a1 : Int32) (a2 : Int32) : Option (wt_S) :=
  wr_S s 0 20 a1 a2 fun s6 =>
    some s6

def fd_found_L11 (s : wt_S) (c2 : Int32) (c3 : Int32) (c4 : Int32) (K : Unit → Option (Int32)) : Nat → Int32 → Int32 → Option (Int32)
  | 0, _, _ => none
  | n + 1, x5, x6 =>
    if (2048 : Int32) ≤ x6 then
        K ()
      else
        if x5 = (0 : Int32) then
          K ()
        else
          rd_ (s 3) 2048 x5 fun v30 =>
          jn_ (fun (_ : Unit) =>
            rd_ (s 6) 2048 x5 fun v67 =>
            fd_found_L11 s c2 c3 c4 K n v67 (x6 + 1)) fun j61 =>
          if v30 = c2 then
            rd_ (s 4) 2048 x5 fun v41 =>
            if v41 = c3 then
              rd_ (s 5) 2048 x5 fun v52 =>
              if v52 = c4 then
                some x5
              else
                j61 ()
            else
              j61 ()
          else
            j61 ()
def fd_found (s : wt_S) (a1 : Int32) (a2 : Int32) (a3 : Int32) (a4 : Int32) : Option (Int32) :=
  rd_ (s 7) 256 a1 fun v5 =>
    fd_found_L11 s a2 a3 a4 (fun (_ : Unit) =>
      some (0 : Int32)) 5000 v5 (0 : Int32)

def fd_added_L0 (c1 : Int32) (c2 : Int32) (c3 : Int32) (c4 : Int32) (K : wt_S → Option (Int32 × wt_S)) : Nat → wt_S → Option (Int32 × wt_S)
  | 0, _ => none
  | n + 1, s =>
    if (2048 : Int32) ≤ (s 9 2) then
        K s
      else
        rd_ (s 3) 2048 (s 9 2) fun v18 =>
        if v18 = (-1 : Int32) then
          K s
        else
          sp_S s 2 ((s 9 2) + (1 : Int32)) fun s30 =>
          fd_added_L0 c1 c2 c3 c4 K n s30
def fd_added (s : wt_S) (a1 : Int32) (a2 : Int32) (a3 : Int32) (a4 : Int32) : Option (Int32 × wt_S) :=
  fd_added_L0 a1 a2 a3 a4 (fun (s_0 : wt_S) =>
      if (s_0 9 2) < (2048 : Int32) then
        wr_S s_0 3 2048 (s_0 9 2) a2 fun s61 =>
        wr_S s61 4 2048 (s_0 9 2) a3 fun s69 =>
        wr_S s69 5 2048 (s_0 9 2) a4 fun s78 =>
        rd_ (s78 7) 256 a1 fun v90 =>
        wr_S s78 6 2048 (s_0 9 2) v90 fun s91 =>
        wr_S s91 7 256 a1 (s_0 9 2) fun s99 =>
        jn_ (fun (y0_121 : Int32) =>
          sp_S s99 1 y0_121 fun s121 =>
          some ((s_0 9 2), s121)) fun j121 =>
        if (s99 9 1) ≤ (s_0 9 2) then
          j121 ((s_0 9 2) + (1 : Int32))
        else
          j121 (s99 9 1)
      else
        some ((0 : Int32), s_0)) 5000 s

def fd_node (s : wt_S) (a1 : Int32) (a2 : Int32) (a3 : Int32) : Option (Int32 × wt_S) :=
  if a2 = a3 then
      some (a2, s)
    else
      b_I (fd_bucket a1 a2 a3) fun r10 =>
      b_I (fd_found s r10 a1 a2 a3) fun r21 =>
      jn_ (fun (y0_45 : Int32) (s_45 : wt_S) =>
        some (y0_45, s_45)) fun j45 =>
      if r21 = (0 : Int32) then
        b_IS (fd_added s r10 a1 a2 a3) fun r42 s42 =>
        j45 r42 s42
      else
        j45 r21 s

def fd_literal (s : wt_S) (a1 : Int32) : Option (Int32 × wt_S) :=
  b_IS (fd_node s a1 (0 : Int32) (1 : Int32)) fun r4 s4 =>
    some (r4, s4)

def fd_upper (s : wt_S) (a1 : Int32) (a2 : Int32) : Option (Int32) :=
  rd_ (s 2) 9 a1 fun v5 =>
    rd_ (s 2) 9 a2 fun v11 =>
    jn_ (fun (y0_20 : Int32) =>
      some y0_20) fun j20 =>
    if v11 < v5 then
      j20 a2
    else
      j20 a1

def fd_offWay (s : wt_S) (a1 : Int32) (a2 : Int32) : Option (Int32) :=
  rd_ (s 3) 2048 a1 fun v5 =>
    jn_ (fun (y0_20 : Int32) =>
      some y0_20) fun j20 =>
    if v5 = a2 then
      rd_ (s 4) 2048 a1 fun v15 =>
      j20 v15
    else
      j20 a1

def fd_onWay (s : wt_S) (a1 : Int32) (a2 : Int32) : Option (Int32) :=
  rd_ (s 3) 2048 a1 fun v5 =>
    jn_ (fun (y0_20 : Int32) =>
      some y0_20) fun j20 =>
    if v5 = a2 then
      rd_ (s 5) 2048 a1 fun v15 =>
      j20 v15
    else
      j20 a1

def fd_join : Nat → wt_S → Int32 → Int32 → Int32 → Int32 → Option (Int32 × wt_S)
  | 0, _, _, _, _, _ => none
  | n + 1, s, a1, a2, a3, a4 =>
    jn_ (fun (_ : Unit) =>
      if a4 < (8 : Int32) then
        rd_ (s 3) 2048 a2 fun v35 =>
        rd_ (s 3) 2048 a3 fun v41 =>
        b_I (fd_upper s v35 v41) fun r42 =>
        b_I (fd_offWay s a2 r42) fun r53 =>
        b_I (fd_offWay s a3 r42) fun r60 =>
        b_IS (fd_join n s a1 r53 r60 (a4 + (1 : Int32))) fun r67 s67 =>
        b_I (fd_onWay s67 a2 r42) fun r78 =>
        b_I (fd_onWay s67 a3 r42) fun r85 =>
        b_IS (fd_join n s67 a1 r78 r85 (a4 + (1 : Int32))) fun r92 s92 =>
        b_IS (fd_node s92 r42 r67 r92) fun r104 s104 =>
        some (r104, s104)
      else
        some ((0 : Int32), s)) fun j20 =>
    if (1 : Int32) < a2 then
      j20 ()
    else
      if (1 : Int32) < a3 then
        j20 ()
      else
        some (((a1 >>> ((((2 : Int32) * a2) + a3) &&& 31)) &&& (1 : Int32)), s)

def fd_negate (s : wt_S) (a1 : Int32) : Option (Int32 × wt_S) :=
  b_IS (fd_join 9 s (3 : Int32) a1 a1 (0 : Int32)) fun r5 s5 =>
    some (r5, s5)

def fd_pick : Nat → wt_S → Int32 → Int32 → Int32 → Int32 → Option (Int32 × wt_S)
  | 0, _, _, _, _, _ => none
  | n + 1, s, a1, a2, a3, a4 =>
    jn_ (fun (_ : Unit) =>
      jn_ (fun (y0_19 : Int32) =>
        some (y0_19, s)) fun j19 =>
      if a1 = (0 : Int32) then
        j19 a3
      else
        j19 a2) fun j10 =>
    if a1 ≤ (1 : Int32) then
      j10 ()
    else
      if a2 = a3 then
        j10 ()
      else
        if a4 < (8 : Int32) then
          rd_ (s 3) 2048 a1 fun v35 =>
          rd_ (s 3) 2048 a2 fun v42 =>
          rd_ (s 3) 2048 a3 fun v48 =>
          b_I (fd_upper s v42 v48) fun r49 =>
          b_I (fd_upper s v35 r49) fun r52 =>
          b_I (fd_offWay s a1 r52) fun r62 =>
          b_I (fd_offWay s a2 r52) fun r69 =>
          b_I (fd_offWay s a3 r52) fun r76 =>
          b_IS (fd_pick n s r62 r69 r76 (a4 + (1 : Int32))) fun r83 s83 =>
          b_I (fd_onWay s83 a1 r52) fun r93 =>
          b_I (fd_onWay s83 a2 r52) fun r100 =>
          b_I (fd_onWay s83 a3 r52) fun r107 =>
          b_IS (fd_pick n s83 r93 r100 r107 (a4 + (1 : Int32))) fun r114 s114 =>
          b_IS (fd_node s114 r52 r83 r114) fun r126 s126 =>
          some (r126, s126)
        else
          some ((0 : Int32), s)

def fd_fix : Nat → wt_S → Int32 → Int32 → Int32 → Int32 → Option (Int32 × wt_S)
  | 0, _, _, _, _, _ => none
  | n + 1, s, a1, a2, a3, a4 =>
    rd_ (s 3) 2048 a1 fun v9 =>
    rd_ (s 2) 9 v9 fun v10 =>
    rd_ (s 2) 9 a2 fun v16 =>
    if v10 ≤ v16 then
      rd_ (s 3) 2048 a1 fun v27 =>
      if v27 = a2 then
        jn_ (fun (y0_51 : Int32) =>
          some (y0_51, s)) fun j51 =>
        if a3 = (0 : Int32) then
          rd_ (s 4) 2048 a1 fun v50 =>
          j51 v50
        else
          rd_ (s 5) 2048 a1 fun v41 =>
          j51 v41
      else
        if a4 < (8 : Int32) then
          rd_ (s 3) 2048 a1 fun v67 =>
          rd_ (s 4) 2048 a1 fun v74 =>
          b_IS (fd_fix n s v74 a2 a3 (a4 + (1 : Int32))) fun r81 s81 =>
          rd_ (s81 5) 2048 a1 fun v90 =>
          b_IS (fd_fix n s81 v90 a2 a3 (a4 + (1 : Int32))) fun r97 s97 =>
          b_IS (fd_node s97 v67 r81 r97) fun r100 s100 =>
          some (r100, s100)
        else
          some ((0 : Int32), s)
    else
      some (a1, s)

def fd_overlap : Nat → wt_S → Int32 → Int32 → Int32 → Int32 → Option (Int32 × wt_S)
  | 0, _, _, _, _, _ => none
  | n + 1, s, a1, a2, a3, a4 =>
    jn_ (fun (_ : Unit) =>
      some ((0 : Int32), s)) fun j8 =>
    if a1 = (0 : Int32) then
      j8 ()
    else
      if a2 = (0 : Int32) then
        j8 ()
      else
        jn_ (fun (_ : Unit) =>
          if a4 < (8 : Int32) then
            rd_ (s 3) 2048 a1 fun v37 =>
            rd_ (s 3) 2048 a2 fun v43 =>
            b_I (fd_upper s v37 v43) fun r44 =>
            b_I (fd_offWay s a1 r44) fun r54 =>
            b_I (fd_offWay s a2 r44) fun r61 =>
            b_IS (fd_overlap n s r54 r61 a3 (a4 + (1 : Int32))) fun r69 s69 =>
            b_I (fd_onWay s69 a1 r44) fun r79 =>
            b_I (fd_onWay s69 a2 r44) fun r86 =>
            b_IS (fd_overlap n s69 r79 r86 a3 (a4 + (1 : Int32))) fun r94 s94 =>
            jn_ (fun (y0_132 : Int32) (s_132 : wt_S) =>
              some (y0_132, s_132)) fun j132 =>
            if ((a3 >>> (r44 &&& 31)) &&& (1 : Int32)) = (0 : Int32) then
              b_IS (fd_node s94 r44 r69 r94) fun r115 s115 =>
              j132 r115 s115
            else
              b_IS (fd_join 9 s94 (14 : Int32) r69 r94 (0 : Int32)) fun r129 s129 =>
              j132 r129 s129
          else
            some ((0 : Int32), s)) fun j22 =>
        if a1 = (1 : Int32) then
          if a2 = (1 : Int32) then
            some ((1 : Int32), s)
          else
            j22 ()
        else
          j22 ()

def fd_mirror : Nat → wt_S → Int32 → Int32 → Option (Int32 × wt_S)
  | 0, _, _, _ => none
  | n + 1, s, a1, a2 =>
    jn_ (fun (_ : Unit) =>
      some (a1, s)) fun j11 =>
    if a1 ≤ (1 : Int32) then
      j11 ()
    else
      if a2 < (8 : Int32) then
        rd_ (s 4) 2048 a1 fun v19 =>
        b_IS (fd_mirror n s v19 (a2 + (1 : Int32))) fun r23 s23 =>
        rd_ (s23 5) 2048 a1 fun v33 =>
        b_IS (fd_mirror n s23 v33 (a2 + (1 : Int32))) fun r37 s37 =>
        rd_ (s37 3) 2048 a1 fun v49 =>
        b_IS (fd_node s37 (v49 ^^^ (1 : Int32)) (0 : Int32) (1 : Int32)) fun r54 s54 =>
        b_IS (fd_pick 9 s54 r54 r37 r23 (0 : Int32)) fun r61 s61 =>
        some (r61, s61)
      else
        j11 ()

def fd_value_L5 (s : wt_S) (c2 : Int32) (K : Int32 → Option (Int32)) : Nat → Int32 → Int32 → Option (Int32)
  | 0, _, _ => none
  | n + 1, x3, x4 =>
    if (8 : Int32) ≤ x4 then
        K x3
      else
        if x3 ≤ (1 : Int32) then
          K x3
        else
          rd_ (s 3) 2048 x3 fun v23 =>
          jn_ (fun (y0_45 : Int32) =>
            fd_value_L5 s c2 K n y0_45 (x4 + 1)) fun j45 =>
          if ((c2 >>> (v23 &&& 31)) &&& (1 : Int32)) = (0 : Int32) then
            rd_ (s 4) 2048 x3 fun v35 =>
            j45 v35
          else
            rd_ (s 5) 2048 x3 fun v44 =>
            j45 v44
def fd_value (s : wt_S) (a1 : Int32) (a2 : Int32) : Option (Int32) :=
  fd_value_L5 s a2 (fun (z3_5 : Int32) =>
      jn_ (fun (y0_62 : Int32) =>
        rz_ y0_62 (some y0_62)) fun j62 =>
      if z3_5 = (1 : Int32) then
        j62 (1 : Int32)
      else
        j62 (0 : Int32)) 5000 a1 (0 : Int32)

def fd_weight : Nat → wt_S → Int32 → Int32 → Option (Int32)
  | 0, _, _, _ => none
  | n + 1, s, a1, a2 =>
    jn_ (fun (_ : Unit) =>
      jn_ (fun (y0_23 : Int32) =>
        some y0_23) fun j23 =>
      if a1 = (1 : Int32) then
        j23 (256 : Int32)
      else
        j23 (0 : Int32)) fun j11 =>
    if a1 ≤ (1 : Int32) then
      j11 ()
    else
      if a2 < (8 : Int32) then
        rd_ (s 4) 2048 a1 fun v30 =>
        b_I (fd_weight n s v30 (a2 + (1 : Int32))) fun r34 =>
        rd_ (s 5) 2048 a1 fun v43 =>
        b_I (fd_weight n s v43 (a2 + (1 : Int32))) fun r47 =>
        some ((r34 + r47) / (2 : Int32))
      else
        j11 ()

def fd_support : Nat → wt_S → Int32 → Int32 → Option (Int32)
  | 0, _, _, _ => none
  | n + 1, s, a1, a2 =>
    jn_ (fun (_ : Unit) =>
      some (0 : Int32)) fun j11 =>
    if a1 ≤ (1 : Int32) then
      j11 ()
    else
      if a2 < (8 : Int32) then
        rd_ (s 3) 2048 a1 fun v19 =>
        rd_ (s 4) 2048 a1 fun v27 =>
        b_I (fd_support n s v27 (a2 + (1 : Int32))) fun r31 =>
        rd_ (s 5) 2048 a1 fun v41 =>
        b_I (fd_support n s v41 (a2 + (1 : Int32))) fun r45 =>
        some ((((1 : Int32) <<< (v19 &&& 31)) ||| r31) ||| r45)
      else
        j11 ()

def fd_size (s : wt_S) (a1 : Int32) : Option (Int32 × wt_S) :=
  b_S (fd_clearMarks s) fun s1 =>
    b_IS (fd_mark 9 s1 a1 (0 : Int32)) fun r7 s7 =>
    some (r7, s7)

def fd_seat (s : wt_S) (a1 : Int32) (a2 : Int32) : Option (wt_S) :=
  wr_S s 1 8 a2 a1 fun s6 =>
    wr_S s6 2 9 a1 a2 fun s13 =>
    some s13

def fd_lift (s : wt_S) (a1 : Int32) (a2 : Int32) (a3 : Int32) : Option (wt_S) :=
  rd_ (s 4) 2048 a1 fun v8 =>
    b_I (fd_offWay s v8 a3) fun r10 =>
    rd_ (s 5) 2048 a1 fun v19 =>
    b_I (fd_offWay s v19 a3) fun r21 =>
    b_IS (fd_node s a2 r10 r21) fun r24 s24 =>
    rd_ (s24 4) 2048 a1 fun v37 =>
    b_I (fd_onWay s24 v37 a3) fun r39 =>
    rd_ (s24 5) 2048 a1 fun v48 =>
    b_I (fd_onWay s24 v48 a3) fun r50 =>
    b_IS (fd_node s24 a2 r39 r50) fun r53 s53 =>
    wr_S s53 3 2048 a1 a3 fun s64 =>
    wr_S s64 4 2048 a1 r24 fun s72 =>
    wr_S s72 5 2048 a1 r53 fun s80 =>
    some s80

def fd_exchange_L33 (c2 : Int32) (c3 : Int32) (K : wt_S → Option (wt_S)) : Nat → Int32 → wt_S → Option (wt_S)
  | 0, _, _ => none
  | n + 1, x4, s =>
    if (s 9 1) ≤ x4 then
        K s
      else
        rd_ (s 3) 2048 x4 fun v48 =>
        jn_ (fun (s_93 : wt_S) =>
          fd_exchange_L33 c2 c3 K n (x4 + 1) s_93) fun j93 =>
        if v48 = c2 then
          rd_ (s 4) 2048 x4 fun v63 =>
          rd_ (s 3) 2048 v63 fun v64 =>
          jn_ (fun (_ : Unit) =>
            b_S (fd_lift s x4 c2 c3) fun s90 =>
            j93 s90) fun j85 =>
          if v64 = c3 then
            j85 ()
          else
            rd_ (s 5) 2048 x4 fun v79 =>
            rd_ (s 3) 2048 v79 fun v80 =>
            if v80 = c3 then
              j85 ()
            else
              j93 s
        else
          j93 s
def fd_exchange (s : wt_S) (a1 : Int32) : Option (wt_S) :=
  rd_ (s 1) 8 a1 fun v5 =>
    rd_ (s 1) 8 (a1 + (1 : Int32)) fun v14 =>
    b_S (fd_seat s v14 a1) fun s19 =>
    b_S (fd_seat s19 v5 (a1 + (1 : Int32))) fun s27 =>
    fd_exchange_L33 v5 v14 (fun (s_33 : wt_S) =>
      b_S (fd_collect s_33) fun s100 =>
      some s100) 5000 (2 : Int32) s27

def fd_move_L2 (c1 : Int32) (c2 : Int32) (K : wt_S → Option (wt_S)) : Nat → Int32 → wt_S → Option (wt_S)
  | 0, _, _ => none
  | n + 1, x3, s =>
    if (8 : Int32) ≤ x3 then
        K s
      else
        rd_ (s 2) 9 c1 fun v13 =>
        if v13 ≤ c2 then
          K s
        else
          rd_ (s 2) 9 c1 fun v24 =>
          b_S (fd_exchange s (v24 - (1 : Int32))) fun s27 =>
          fd_move_L2 c1 c2 K n (x3 + 1) s27
def fd_move_L38 (c1 : Int32) (c2 : Int32) (K : wt_S → Option (wt_S)) : Nat → Int32 → wt_S → Option (wt_S)
  | 0, _, _ => none
  | n + 1, x3, s =>
    if (8 : Int32) ≤ x3 then
        K s
      else
        rd_ (s 2) 9 c1 fun v49 =>
        if c2 ≤ v49 then
          K s
        else
          rd_ (s 2) 9 c1 fun v60 =>
          b_S (fd_exchange s v60) fun s61 =>
          fd_move_L38 c1 c2 K n (x3 + 1) s61
def fd_move (s : wt_S) (a1 : Int32) (a2 : Int32) : Option (wt_S) :=
  fd_move_L2 a1 a2 (fun (s_2 : wt_S) =>
      fd_move_L38 a1 a2 (fun (s_38 : wt_S) =>
        some s_38) 5000 (0 : Int32) s_2) 5000 (0 : Int32) s

def fd_blameUnder (s : wt_S) (a1 : Int32) (a2 : Int32) : Option (wt_S) :=
  rd_ (s 3) 2048 a2 fun v5 =>
    jn_ (fun (y0_25 : Int32) =>
      jn_ (fun (s_38 : wt_S) =>
        some s_38) fun j38 =>
      if a1 < y0_25 then
        j38 s
      else
        wr_S s 8 2048 a2 (vp_nar .boolean (1 : Int32)) fun s37 =>
        j38 s37) fun j25 =>
    if v5 = (-1 : Int32) then
      j25 (-1 : Int32)
    else
      rd_ (s 3) 2048 a2 fun v23 =>
      rd_ (s 2) 9 v23 fun v24 =>
      j25 v24

def fd_blame (s : wt_S) (a1 : Int32) : Option (wt_S) :=
  rd_ (s 3) 2048 a1 fun v5 =>
    rd_ (s 4) 2048 a1 fun v11 =>
    rd_ (s 5) 2048 a1 fun v17 =>
    b_I (fd_bucket v5 v11 v17) fun r18 =>
    rd_ (s 3) 2048 a1 fun v29 =>
    rd_ (s 4) 2048 a1 fun v35 =>
    rd_ (s 5) 2048 a1 fun v41 =>
    b_I (fd_found s r18 v29 v35 v41) fun r42 =>
    jn_ (fun (y0_54 : Int32) =>
      jn_ (fun (s_81 : wt_S) =>
        rd_ (s_81 3) 2048 a1 fun v91 =>
        rd_ (s_81 2) 9 v91 fun v92 =>
        rd_ (s_81 4) 2048 a1 fun v98 =>
        b_S (fd_blameUnder s_81 v92 v98) fun s99 =>
        rd_ (s99 3) 2048 a1 fun v112 =>
        rd_ (s99 2) 9 v112 fun v113 =>
        rd_ (s99 5) 2048 a1 fun v119 =>
        b_S (fd_blameUnder s99 v113 v119) fun s120 =>
        some s120) fun j81 =>
      jn_ (fun (_ : Unit) =>
        wr_S s 8 2048 a1 (vp_nar .boolean (1 : Int32)) fun s80 =>
        j81 s80) fun j74 =>
      if y0_54 = (0 : Int32) then
        rd_ (s 4) 2048 a1 fun v64 =>
        rd_ (s 5) 2048 a1 fun v70 =>
        if v64 = v70 then
          j74 ()
        else
          j81 s
      else
        j74 ()) fun j54 =>
    if r42 = a1 then
      j54 (0 : Int32)
    else
      j54 (1 : Int32)

def fd_faults_L6 (K : wt_S → Option (Int32 × wt_S)) : Nat → Int32 → wt_S → Option (Int32 × wt_S)
  | 0, _, _ => none
  | n + 1, x1, s =>
    if (20 : Int32) ≤ x1 then
        K s
      else
        rd_ (s 0) 20 x1 fun v19 =>
        b_S (fd_blameUnder s (-1 : Int32) v19) fun s20 =>
        fd_faults_L6 K n (x1 + 1) s20
def fd_faults_L31 (K : wt_S → Option (Int32 × wt_S)) : Nat → Int32 → wt_S → Option (Int32 × wt_S)
  | 0, _, _ => none
  | n + 1, x1, s =>
    if (s 9 1) ≤ x1 then
        K s
      else
        rd_ (s 3) 2048 x1 fun v44 =>
        jn_ (fun (s_54 : wt_S) =>
          fd_faults_L31 K n (x1 + 1) s_54) fun j54 =>
        if v44 = (-1 : Int32) then
          j54 s
        else
          b_S (fd_blame s x1) fun s51 =>
          j54 s51
def fd_faults_L64 (s : wt_S) : Nat → Int32 → Int32 → Option (Int32 × wt_S)
  | 0, _, _ => none
  | n + 1, x1, x2 =>
    if (s 9 1) ≤ x2 then
        some (x1, s)
      else
        rd_ (s 8) 2048 x2 fun v78 =>
        jn_ (fun (y0_87 : Int32) =>
          fd_faults_L64 s n (x1 + y0_87) (x2 + 1)) fun j87 =>
        if v78 = (0 : Int32) then
          j87 (0 : Int32)
        else
          j87 (1 : Int32)
def fd_faults (s : wt_S) : Option (Int32 × wt_S) :=
  b_S (fd_clearMarks s) fun s1 =>
    fd_faults_L6 (fun (s_6 : wt_S) =>
      fd_faults_L31 (fun (s_31 : wt_S) =>
        fd_faults_L64 s_31 5000 (0 : Int32) (2 : Int32)) 5000 (2 : Int32) s_6) 5000 (0 : Int32) s1

def fx_needRegister (a1 : Int32) : Option (Unit) :=
  jn_ (fun (_ : Unit) =>
      none) fun j10 =>
    if a1 < (0 : Int32) then
      j10 ()
    else
      if a1 < (16 : Int32) then
        some ()
      else
        j10 ()

def fx_needVariable (a1 : Int32) : Option (Unit) :=
  jn_ (fun (_ : Unit) =>
      none) fun j10 =>
    if a1 < (0 : Int32) then
      j10 ()
    else
      if a1 < (8 : Int32) then
        some ()
      else
        j10 ()

def fx_variable (s : wt_S) (a1 : Int32) (a2 : Int32) : Option (wt_S) :=
  b_U (fx_needRegister a1) fun (_ : Unit) =>
    b_U (fx_needVariable a2) fun (_ : Unit) =>
    b_IS (fd_literal s a2) fun r18 s18 =>
    b_S (fd_keep s18 a1 r18) fun s21 =>
    some s21

def fx_constant (s : wt_S) (a1 : Int32) (a2 : Int32) : Option (wt_S) :=
  b_U (fx_needRegister a1) fun (_ : Unit) =>
    jn_ (fun (y0_18 : Int32) =>
      b_S (fd_keep s a1 y0_18) fun s18 =>
      some s18) fun j18 =>
    if a2 = (0 : Int32) then
      j18 (0 : Int32)
    else
      j18 (1 : Int32)

def fx_needBelow (a1 : Int32) (a2 : Int32) : Option (Unit) :=
  jn_ (fun (_ : Unit) =>
      none) fun j9 =>
    if a1 < (0 : Int32) then
      j9 ()
    else
      if a1 < a2 then
        some ()
      else
        j9 ()

def fx_apply (s : wt_S) (a1 : Int32) (a2 : Int32) (a3 : Int32) (a4 : Int32) : Option (wt_S) :=
  b_U (fx_needRegister a1) fun (_ : Unit) =>
    b_U (fx_needRegister a3) fun (_ : Unit) =>
    b_U (fx_needRegister a4) fun (_ : Unit) =>
    b_U (fx_needBelow a2 (16 : Int32)) fun (_ : Unit) =>
    b_I (fd_root s a3) fun r34 =>
    b_I (fd_root s a4) fun r43 =>
    b_IS (fd_join 9 s a2 r34 r43 (0 : Int32)) fun r47 s47 =>
    b_S (fd_keep s47 a1 r47) fun s50 =>
    some s50

def fx_choose (s : wt_S) (a1 : Int32) (a2 : Int32) (a3 : Int32) (a4 : Int32) : Option (wt_S) :=
  b_U (fx_needRegister a1) fun (_ : Unit) =>
    b_U (fx_needRegister a2) fun (_ : Unit) =>
    b_U (fx_needRegister a3) fun (_ : Unit) =>
    b_U (fx_needRegister a4) fun (_ : Unit) =>
    b_I (fd_root s a2) fun r31 =>
    b_I (fd_root s a3) fun r39 =>
    b_I (fd_root s a4) fun r48 =>
    b_IS (fd_pick 9 s r31 r39 r48 (0 : Int32)) fun r52 s52 =>
    b_S (fd_keep s52 a1 r52) fun s55 =>
    some s55

def fx_restrict (s : wt_S) (a1 : Int32) (a2 : Int32) (a3 : Int32) (a4 : Int32) : Option (wt_S) :=
  b_U (fx_needRegister a1) fun (_ : Unit) =>
    b_U (fx_needRegister a2) fun (_ : Unit) =>
    b_U (fx_needVariable a3) fun (_ : Unit) =>
    b_I (fd_root s a2) fun r26 =>
    b_IS (fd_fix 9 s r26 a3 a4 (0 : Int32)) fun r33 s33 =>
    b_S (fd_keep s33 a1 r33) fun s36 =>
    some s36

def fx_quantify (s : wt_S) (a1 : Int32) (a2 : Int32) (a3 : Int32) (a4 : Int32) : Option (wt_S) :=
  b_U (fx_needRegister a1) fun (_ : Unit) =>
    b_U (fx_needRegister a2) fun (_ : Unit) =>
    b_U (fx_needBelow a3 (256 : Int32)) fun (_ : Unit) =>
    b_I (fd_root s a2) fun r20 =>
    jn_ (fun (s_91 : wt_S) =>
      some s_91) fun j91 =>
    if a4 = (0 : Int32) then
      b_IS (fd_overlap 9 s r20 (1 : Int32) a3 (0 : Int32)) fun r85 s85 =>
      b_S (fd_keep s85 a1 r85) fun s88 =>
      j91 s88
    else
      b_IS (fd_negate s r20) fun r40 s40 =>
      b_IS (fd_overlap 9 s40 r40 (1 : Int32) a3 (0 : Int32)) fun r46 s46 =>
      b_IS (fd_negate s46 r46) fun r62 s62 =>
      b_S (fd_keep s62 a1 r62) fun s65 =>
      j91 s65

def fx_product (s : wt_S) (a1 : Int32) (a2 : Int32) (a3 : Int32) (a4 : Int32) : Option (wt_S) :=
  b_U (fx_needRegister a1) fun (_ : Unit) =>
    b_U (fx_needRegister a2) fun (_ : Unit) =>
    b_U (fx_needRegister a3) fun (_ : Unit) =>
    b_U (fx_needBelow a4 (256 : Int32)) fun (_ : Unit) =>
    b_I (fd_root s a2) fun r34 =>
    b_I (fd_root s a3) fun r42 =>
    b_IS (fd_overlap 9 s r34 r42 a4 (0 : Int32)) fun r48 s48 =>
    b_S (fd_keep s48 a1 r48) fun s51 =>
    some s51

def fx_compose (s : wt_S) (a1 : Int32) (a2 : Int32) (a3 : Int32) (a4 : Int32) : Option (wt_S) :=
  b_U (fx_needRegister a1) fun (_ : Unit) =>
    b_U (fx_needRegister a2) fun (_ : Unit) =>
    b_U (fx_needVariable a3) fun (_ : Unit) =>
    b_U (fx_needRegister a4) fun (_ : Unit) =>
    b_I (fd_root s a2) fun r26 =>
    b_IS (fd_fix 9 s r26 a3 (1 : Int32) (0 : Int32)) fun r32 s32 =>
    b_I (fd_root s32 a2) fun r46 =>
    b_IS (fd_fix 9 s32 r46 a3 (0 : Int32) (0 : Int32)) fun r52 s52 =>
    b_I (fd_root s52 a4) fun r72 =>
    b_IS (fd_pick 9 s52 r72 r32 r52 (0 : Int32)) fun r80 s80 =>
    b_S (fd_keep s80 a1 r80) fun s83 =>
    some s83

def fx_turn (s : wt_S) (a1 : Int32) (a2 : Int32) : Option (wt_S) :=
  b_U (fx_needRegister a1) fun (_ : Unit) =>
    b_U (fx_needRegister a2) fun (_ : Unit) =>
    b_I (fd_root s a2) fun r22 =>
    b_IS (fd_mirror 9 s r22 (0 : Int32)) fun r26 s26 =>
    b_S (fd_keep s26 a1 r26) fun s29 =>
    some s29

def fx_truth (s : wt_S) (a1 : Int32) (a2 : Int32) : Option (Int32) :=
  b_U (fx_needRegister a1) fun (_ : Unit) =>
    b_U (fx_needBelow a2 (256 : Int32)) fun (_ : Unit) =>
    b_I (fd_root s a1) fun r20 =>
    b_I (fd_value s r20 a2) fun r24 =>
    rz_ r24 (some r24)

def fx_same (s : wt_S) (a1 : Int32) (a2 : Int32) : Option (Int32) :=
  b_U (fx_needRegister a1) fun (_ : Unit) =>
    b_U (fx_needRegister a2) fun (_ : Unit) =>
    b_I (fd_root s a1) fun r13 =>
    b_I (fd_root s a2) fun r21 =>
    jn_ (fun (y0_32 : Int32) =>
      rz_ y0_32 (some y0_32)) fun j32 =>
    if r13 = r21 then
      j32 (1 : Int32)
    else
      j32 (0 : Int32)

def fx_count (s : wt_S) (a1 : Int32) : Option (Int32) :=
  b_U (fx_needRegister a1) fun (_ : Unit) =>
    b_I (fd_root s a1) fun r13 =>
    b_I (fd_weight 9 s r13 (0 : Int32)) fun r17 =>
    some r17

def fx_least_L15 (s : wt_S) (c2 : Int32) : Nat → Int32 → Option (Int32)
  | 0, _ => none
  | n + 1, x3 =>
    if (256 : Int32) ≤ x3 then
        some (-1 : Int32)
      else
        b_I (fd_value s c2 x3) fun r28 =>
        if r28 = (0 : Int32) then
          fx_least_L15 s c2 n (x3 + 1)
        else
          some x3
def fx_least (s : wt_S) (a1 : Int32) : Option (Int32) :=
  b_U (fx_needRegister a1) fun (_ : Unit) =>
    b_I (fd_root s a1) fun r9 =>
    fx_least_L15 s r9 5000 (0 : Int32)

def fx_depends (s : wt_S) (a1 : Int32) : Option (Int32) :=
  b_U (fx_needRegister a1) fun (_ : Unit) =>
    b_I (fd_root s a1) fun r13 =>
    b_I (fd_support 9 s r13 (0 : Int32)) fun r17 =>
    some r17

def fx_nodes (s : wt_S) (a1 : Int32) : Option (Int32 × wt_S) :=
  b_U (fx_needRegister a1) fun (_ : Unit) =>
    b_I (fd_root s a1) fun r13 =>
    b_IS (fd_size s r13) fun r16 s16 =>
    some (r16, s16)

def fx_heap (s : wt_S) : Option (Int32) :=
  b_I (fd_live s) fun r4 =>
    some r4

def fx_needLevel (a1 : Int32) (a2 : Int32) : Option (Unit) :=
  jn_ (fun (_ : Unit) =>
      none) fun j9 =>
    if a1 < (0 : Int32) then
      j9 ()
    else
      if a1 < a2 then
        some ()
      else
        j9 ()

def fx_order (s : wt_S) (a1 : Int32) : Option (Int32) :=
  b_U (fx_needLevel a1 (8 : Int32)) fun (_ : Unit) =>
    b_I (fd_variableAt s a1) fun r11 =>
    some r11

def fx_swap (s : wt_S) (a1 : Int32) : Option (Int32 × wt_S) :=
  b_U (fx_needLevel a1 (7 : Int32)) fun (_ : Unit) =>
    b_S (fd_exchange s a1) fun s11 =>
    b_I (fd_live s11) fun r18 =>
    some (r18, s11)

def fx_place (s : wt_S) (a1 : Int32) (a2 : Int32) : Option (Int32 × wt_S) :=
  b_U (fx_needVariable a1) fun (_ : Unit) =>
    b_U (fx_needLevel a2 (8 : Int32)) fun (_ : Unit) =>
    b_S (fd_move s a1 a2) fun s16 =>
    b_I (fd_live s16) fun r23 =>
    some (r23, s16)

def fx_sift_L26 (c1 : Int32) (K : Int32 → wt_S → Option (Int32 × wt_S)) : Nat → Int32 → Int32 → Int32 → wt_S → Option (Int32 × wt_S)
  | 0, _, _, _, _ => none
  | n + 1, x2, x3, x4, s =>
    if (8 : Int32) ≤ x4 then
        K x2 s
      else
        b_S (fd_move s c1 x4) fun s40 =>
        b_I (fd_live s40) fun r47 =>
        jn_ (fun (x2_65 : Int32) (x3_65 : Int32) =>
          fx_sift_L26 c1 K n x2_65 x3_65 (x4 + 1) s40) fun j65 =>
        if x3 ≤ r47 then
          j65 x2 x3
        else
          b_I (fd_live s40) fun r61 =>
          j65 x4 r61
def fx_sift (s : wt_S) (a1 : Int32) : Option (Int32 × wt_S) :=
  b_U (fx_needVariable a1) fun (_ : Unit) =>
    b_S (fd_move s a1 (0 : Int32)) fun s10 =>
    b_I (fd_live s10) fun r19 =>
    fx_sift_L26 a1 (fun (z2_26 : Int32) (s_26 : wt_S) =>
      b_S (fd_move s_26 a1 z2_26) fun s77 =>
      b_I (fd_live s77) fun r84 =>
      some (r84, s77)) 5000 (0 : Int32) r19 (1 : Int32) s10

def fx_needSet (s : wt_S) (a1 : Int32) : Option (Unit) :=
  b_I (fd_root s a1) fun r9 =>
    b_I (fd_support 9 s r9 (0 : Int32)) fun r13 =>
    if (r13 &&& (170 : Int32)) = (0 : Int32) then
      some ()
    else
      none

def fx_after (s : wt_S) (a1 : Int32) (a2 : Int32) : Option (Int32 × wt_S) :=
  b_IS (fd_overlap 9 s a1 a2 (85 : Int32) (0 : Int32)) fun r13 s13 =>
    b_IS (fd_mirror 9 s13 r13 (0 : Int32)) fun r17 s17 =>
    some (r17, s17)

def fx_states (s : wt_S) (a1 : Int32) : Option (Int32) :=
  b_I (fd_root s a1) fun r9 =>
    b_I (fd_weight 9 s r9 (0 : Int32)) fun r13 =>
    some (r13 / (16 : Int32))

def fx_image (s : wt_S) (a1 : Int32) (a2 : Int32) (a3 : Int32) : Option (Int32 × wt_S) :=
  b_U (fx_needRegister a1) fun (_ : Unit) =>
    b_U (fx_needRegister a2) fun (_ : Unit) =>
    b_U (fx_needRegister a3) fun (_ : Unit) =>
    b_U (fx_needSet s a3) fun (_ : Unit) =>
    b_I (fd_root s a2) fun r28 =>
    b_I (fd_root s a3) fun r36 =>
    b_IS (fx_after s r28 r36) fun r39 s39 =>
    b_S (fd_keep s39 a1 r39) fun s42 =>
    b_I (fx_states s42 a1) fun r47 =>
    some (r47, s42)

def fx_reach_L43 (c1 : Int32) (c4 : Int32) (K : Int32 → Int32 → wt_S → Option (Int32 × wt_S)) : Nat → Int32 → Int32 → Int32 → wt_S → Option (Int32 × wt_S)
  | 0, _, _, _, _ => none
  | n + 1, x5, x6, x7, s =>
    if (16 : Int32) ≤ x7 then
        K x5 x6 s
      else
        b_IS (fx_after s c4 x5) fun r63 s63 =>
        b_IS (fd_join 9 s63 (14 : Int32) x5 r63 (0 : Int32)) fun r67 s67 =>
        if r67 = x5 then
          K x5 x6 s67
        else
          b_S (fd_hold s67 (18 : Int32) r67) fun s97 =>
          b_S (fd_collect s97) fun s104 =>
          fx_reach_L43 c1 c4 K n r67 (x6 + 1) (x7 + 1) s104
def fx_reach (s : wt_S) (a1 : Int32) (a2 : Int32) (a3 : Int32) : Option (Int32 × wt_S) :=
  b_U (fx_needRegister a1) fun (_ : Unit) =>
    b_U (fx_needRegister a2) fun (_ : Unit) =>
    b_U (fx_needRegister a3) fun (_ : Unit) =>
    b_U (fx_needSet s a3) fun (_ : Unit) =>
    b_I (fd_root s a2) fun r22 =>
    b_I (fd_root s a3) fun r32 =>
    fx_reach_L43 a1 r22 (fun (z5_43 : Int32) (z6_43 : Int32) (s_43 : wt_S) =>
      b_S (fd_keep s_43 a1 z5_43) fun s120 =>
      some (z6_43, s120)) 5000 r32 (0 : Int32) (0 : Int32) s

def fx_before (s : wt_S) (a1 : Int32) (a2 : Int32) : Option (Int32 × wt_S) :=
  b_IS (fd_mirror 9 s a2 (0 : Int32)) fun r11 s11 =>
    b_IS (fd_overlap 9 s11 a1 r11 (170 : Int32) (0 : Int32)) fun r18 s18 =>
    some (r18, s18)

def fx_settle_L27 (c1 : Int32) (c2 : Int32) (c3 : Int32) (K : Int32 → wt_S → Option (Int32 × wt_S)) : Nat → Int32 → Int32 → wt_S → Option (Int32 × wt_S)
  | 0, _, _, _ => none
  | n + 1, x5, x6, s =>
    if (16 : Int32) < x6 then
        K x5 s
      else
        b_IS (fx_before s c1 x5) fun r52 s52 =>
        b_IS (fd_join 9 s52 (8 : Int32) c2 r52 (0 : Int32)) fun r56 s56 =>
        b_IS (fd_join 9 s56 (14 : Int32) c3 r56 (0 : Int32)) fun r60 s60 =>
        if r60 = x5 then
          K x5 s60
        else
          b_S (fd_hold s60 (18 : Int32) r60) fun s87 =>
          b_S (fd_collect s87) fun s94 =>
          fx_settle_L27 c1 c2 c3 K n r60 (x6 + 1) s94
def fx_settle (s : wt_S) (a1 : Int32) (a2 : Int32) (a3 : Int32) (a4 : Int32) : Option (Int32 × wt_S) :=
  b_S (fd_hold s (16 : Int32) a2) fun s7 =>
    b_S (fd_hold s7 (17 : Int32) a3) fun s17 =>
    fx_settle_L27 a1 a2 a3 (fun (z5_27 : Int32) (s_27 : wt_S) =>
      some (z5_27, s_27)) 5000 a4 (0 : Int32) s17

def fx_check (s : wt_S) (a1 : Int32) (a2 : Int32) (a3 : Int32) (a4 : Int32) (a5 : Int32) : Option (Int32 × wt_S) :=
  b_U (fx_needRegister a1) fun (_ : Unit) =>
    b_U (fx_needRegister a2) fun (_ : Unit) =>
    b_U (fx_needRegister a4) fun (_ : Unit) =>
    b_U (fx_needRegister a5) fun (_ : Unit) =>
    b_U (fx_needBelow a3 (8 : Int32)) fun (_ : Unit) =>
    b_U (fx_needSet s a4) fun (_ : Unit) =>
    b_U (fx_needSet s a5) fun (_ : Unit) =>
    b_I (fd_root s a2) fun r41 =>
    b_I (fd_root s a4) fun r52 =>
    b_I (fd_root s a5) fun r63 =>
    b_IS (fd_negate s r52) fun r74 s74 =>
    jn_ (fun (x10_327 : Int32) (s_327 : wt_S) =>
      b_S (fd_keep s_327 a1 x10_327) fun s334 =>
      b_I (fx_states s334 a1) fun r339 =>
      some (r339, s334)) fun j327 =>
    if a3 = (0 : Int32) then
      b_IS (fx_before s74 r41 r52) fun r129 s129 =>
      j327 r129 s129
    else if a3 = (1 : Int32) then
      b_IS (fx_settle s74 r41 (1 : Int32) r52 r52) fun r145 s145 =>
      j327 r145 s145
    else if a3 = (2 : Int32) then
      b_IS (fx_settle s74 r41 r52 (0 : Int32) r52) fun r161 s161 =>
      j327 r161 s161
    else if a3 = (3 : Int32) then
      b_IS (fx_settle s74 r41 r52 r63 r63) fun r178 s178 =>
      j327 r178 s178
    else if a3 = (4 : Int32) then
      b_IS (fx_before s74 r41 r74) fun r195 s195 =>
      b_IS (fd_negate s195 r195) fun r198 s198 =>
      j327 r198 s198
    else if a3 = (5 : Int32) then
      b_IS (fx_settle s74 r41 r74 (0 : Int32) r74) fun r218 s218 =>
      b_IS (fd_negate s218 r218) fun r221 s221 =>
      j327 r221 s221
    else if a3 = (6 : Int32) then
      b_IS (fx_settle s74 r41 (1 : Int32) r74 r74) fun r241 s241 =>
      b_IS (fd_negate s241 r241) fun r244 s244 =>
      j327 r244 s244
    else       b_IS (fd_negate s74 r63) fun r258 s258 =>
      b_IS (fx_settle s258 r41 r258 (0 : Int32) r258) fun r271 s271 =>
      b_S (fd_hold s271 (19 : Int32) r271) fun s284 =>
      b_IS (fd_join 9 s284 (1 : Int32) r52 r63 (0 : Int32)) fun r297 s297 =>
      b_IS (fx_settle s297 r41 r258 r297 r297) fun r318 s318 =>
      b_IS (fd_join 9 s318 (1 : Int32) r271 r318 (0 : Int32)) fun r322 s322 =>
      j327 r322 s322

def fx_astray (s : wt_S) : Option (Int32 × wt_S) :=
  b_IS (fd_faults s) fun r4 s4 =>
    some (r4, s4)

def fm_thrown (t : wt_M) : Option (Int32) :=
  some (t.1 9 0)

def fm_in (a1 : Int32) (a2 : Int32) (a3 : Int32) : Option (Int32) :=
  jn_ (fun (y0_15 : Int32) =>
      rz_ y0_15 (some y0_15)) fun j15 =>
    jn_ (fun (_ : Unit) =>
      j15 (0 : Int32)) fun j14 =>
    if a1 < a2 then
      j14 ()
    else
      if a3 < a1 then
        j14 ()
      else
        j15 (1 : Int32)

def fm_isRegister (a1 : Int32) : Option (Int32) :=
  b_I (fm_in a1 (0 : Int32) (15 : Int32)) fun r4 =>
    rz_ r4 (some r4)

def fm_isVariable (a1 : Int32) : Option (Int32) :=
  b_I (fm_in a1 (0 : Int32) (7 : Int32)) fun r4 =>
    rz_ r4 (some r4)

def fm_value (t : wt_M) (a1 : Int32) (a2 : Int32) : Option (Int32) :=
  rd_L (t.2 0) 72 (((4 : Int32) * a1) + (a2 >>> ((6 : Int32) &&& 31))) fun v12 =>
    jn_ (fun (y0_30 : Int32) =>
      rz_ y0_30 (some y0_30)) fun j30 =>
    if ((v12 >>> ((a2 &&& (63 : Int32)).toInt64 &&& 63)) &&& (1 : Int64)) = (1 : Int64) then
      j30 (1 : Int32)
    else
      j30 (0 : Int32)

def fm_clear_L3 : Nat → Int32 → wt_M → Option (wt_M)
  | 0, _, _ => none
  | n + 1, x1, t =>
    if (68 : Int32) ≤ x1 then
        some t
      else
        wr_L t 0 72 x1 (0 : Int64) fun t15 =>
        fm_clear_L3 n (x1 + 1) t15
def fm_clear (t : wt_M) : Option (wt_M) :=
  fm_clear_L3 5000 (64 : Int32) t

def fm_set (t : wt_M) (a1 : Int32) (a2 : Int32) : Option (wt_M) :=
  jn_ (fun (t_25 : wt_M) =>
      some t_25) fun j25 =>
    if a2 = (0 : Int32) then
      j25 t
    else
      rd_L (t.2 0) 72 ((64 : Int32) + (a1 >>> ((6 : Int32) &&& 31))) fun v16 =>
      wr_L t 0 72 ((64 : Int32) + (a1 >>> ((6 : Int32) &&& 31))) (v16 ||| ((1 : Int64) <<< ((a1 &&& (63 : Int32)).toInt64 &&& 63))) fun t24 =>
      j25 t24

def fm_keep_L2 (c1 : Int32) : Nat → Int32 → wt_M → Option (wt_M)
  | 0, _, _ => none
  | n + 1, x2, t =>
    if (4 : Int32) ≤ x2 then
        some t
      else
        rd_L (t.2 0) 72 ((64 : Int32) + x2) fun v24 =>
        wr_L t 0 72 (((4 : Int32) * c1) + x2) v24 fun t25 =>
        fm_keep_L2 c1 n (x2 + 1) t25
def fm_keep (t : wt_M) (a1 : Int32) : Option (wt_M) :=
  fm_keep_L2 a1 5000 (0 : Int32) t

def fm_with (a1 : Int32) (a2 : Int32) (a3 : Int32) : Option (Int32) :=
  jn_ (fun (y0_19 : Int32) =>
      some y0_19) fun j19 =>
    if a3 = (0 : Int32) then
      j19 (a1 &&& (((1 : Int32) <<< (a2 &&& 31)) ^^^ (-1 : Int32)))
    else
      j19 (a1 ||| ((1 : Int32) <<< (a2 &&& 31)))

def fm_variable_L36 (c1 : Int32) (c2 : Int32) (K : wt_M → Option (wt_M)) : Nat → Int32 → wt_M → Option (wt_M)
  | 0, _, _ => none
  | n + 1, x3, t =>
    if (256 : Int32) ≤ x3 then
        K t
      else
        jn_ (fun (y0_59 : Int32) =>
          b_T (fm_set t x3 y0_59) fun t59 =>
          fm_variable_L36 c1 c2 K n (x3 + 1) t59) fun j59 =>
        if ((x3 >>> (c2 &&& 31)) &&& (1 : Int32)) = (1 : Int32) then
          j59 (1 : Int32)
        else
          j59 (0 : Int32)
def fm_variable (t : wt_M) (a1 : Int32) (a2 : Int32) : Option (wt_M) :=
  b_I (fm_isRegister a1) fun r2 =>
    jn_ (fun (y0_20 : Int32) =>
      sp_T t 0 y0_20 fun t20 =>
      jn_ (fun (t_73 : wt_M) =>
        some t_73) fun j73 =>
      if (t20.1 9 0) = (0 : Int32) then
        b_T (fm_clear t20) fun t31 =>
        fm_variable_L36 a1 a2 (fun (t_36 : wt_M) =>
          b_T (fm_keep t_36 a1) fun t70 =>
          j73 t70) 5000 (0 : Int32) t31
      else
        j73 t20) fun j20 =>
    jn_ (fun (_ : Unit) =>
      j20 (1 : Int32)) fun j19 =>
    if r2 = (0 : Int32) then
      j19 ()
    else
      b_I (fm_isVariable a2) fun r9 =>
      if r9 = (0 : Int32) then
        j19 ()
      else
        j20 (0 : Int32)

def fm_constant_L29 (c1 : Int32) (c2 : Int32) (K : wt_M → Option (wt_M)) : Nat → Int32 → wt_M → Option (wt_M)
  | 0, _, _ => none
  | n + 1, x3, t =>
    if (256 : Int32) ≤ x3 then
        K t
      else
        b_T (fm_set t x3 c2) fun t39 =>
        fm_constant_L29 c1 c2 K n (x3 + 1) t39
def fm_constant (t : wt_M) (a1 : Int32) (a2 : Int32) : Option (wt_M) :=
  b_I (fm_isRegister a1) fun r2 =>
    jn_ (fun (y0_13 : Int32) =>
      sp_T t 0 y0_13 fun t13 =>
      jn_ (fun (t_53 : wt_M) =>
        some t_53) fun j53 =>
      if (t13.1 9 0) = (0 : Int32) then
        b_T (fm_clear t13) fun t24 =>
        fm_constant_L29 a1 a2 (fun (t_29 : wt_M) =>
          b_T (fm_keep t_29 a1) fun t50 =>
          j53 t50) 5000 (0 : Int32) t24
      else
        j53 t13) fun j13 =>
    if r2 = (0 : Int32) then
      j13 (1 : Int32)
    else
      j13 (0 : Int32)

def fm_apply_L59 (c1 : Int32) (c2 : Int32) (c3 : Int32) (c4 : Int32) (K : wt_M → Option (wt_M)) : Nat → Int32 → wt_M → Option (wt_M)
  | 0, _, _ => none
  | n + 1, x5, t =>
    if (256 : Int32) ≤ x5 then
        K t
      else
        b_I (fm_value t c3 x5) fun r71 =>
        jn_ (fun (y0_82 : Int32) =>
          b_I (fm_value t c4 x5) fun r87 =>
          jn_ (fun (y0_98 : Int32) =>
            jn_ (fun (y0_119 : Int32) =>
              b_T (fm_set t x5 y0_119) fun t119 =>
              fm_apply_L59 c1 c2 c3 c4 K n (x5 + 1) t119) fun j119 =>
            if ((c2 >>> ((y0_82 + y0_98) &&& 31)) &&& (1 : Int32)) = (1 : Int32) then
              j119 (1 : Int32)
            else
              j119 (0 : Int32)) fun j98 =>
          if r87 = (0 : Int32) then
            j98 (0 : Int32)
          else
            j98 (1 : Int32)) fun j82 =>
        if r71 = (0 : Int32) then
          j82 (0 : Int32)
        else
          j82 (2 : Int32)
def fm_apply (t : wt_M) (a1 : Int32) (a2 : Int32) (a3 : Int32) (a4 : Int32) : Option (wt_M) :=
  b_I (fm_isRegister a1) fun r2 =>
    jn_ (fun (y0_42 : Int32) =>
      sp_T t 0 y0_42 fun t42 =>
      jn_ (fun (t_133 : wt_M) =>
        some t_133) fun j133 =>
      if (t42.1 9 0) = (0 : Int32) then
        b_T (fm_clear t42) fun t53 =>
        fm_apply_L59 a1 a2 a3 a4 (fun (t_59 : wt_M) =>
          b_T (fm_keep t_59 a1) fun t130 =>
          j133 t130) 5000 (0 : Int32) t53
      else
        j133 t42) fun j42 =>
    jn_ (fun (_ : Unit) =>
      j42 (1 : Int32)) fun j23 =>
    if r2 = (0 : Int32) then
      j23 ()
    else
      b_I (fm_isRegister a3) fun r9 =>
      if r9 = (0 : Int32) then
        j23 ()
      else
        b_I (fm_isRegister a4) fun r17 =>
        if r17 = (0 : Int32) then
          j23 ()
        else
          b_I (fm_in a2 (0 : Int32) (15 : Int32)) fun r31 =>
          if r31 = (0 : Int32) then
            j42 (2 : Int32)
          else
            j42 (0 : Int32)

def fm_choose_L52 (c1 : Int32) (c2 : Int32) (c3 : Int32) (c4 : Int32) (K : wt_M → Option (wt_M)) : Nat → Int32 → wt_M → Option (wt_M)
  | 0, _, _ => none
  | n + 1, x5, t =>
    if (256 : Int32) ≤ x5 then
        K t
      else
        b_I (fm_value t c2 x5) fun r67 =>
        jn_ (fun (y0_91 : Int32) =>
          b_T (fm_set t x5 y0_91) fun t91 =>
          fm_choose_L52 c1 c2 c3 c4 K n (x5 + 1) t91) fun j91 =>
        if r67 = (0 : Int32) then
          b_I (fm_value t c4 x5) fun r88 =>
          j91 r88
        else
          b_I (fm_value t c3 x5) fun r77 =>
          j91 r77
def fm_choose (t : wt_M) (a1 : Int32) (a2 : Int32) (a3 : Int32) (a4 : Int32) : Option (wt_M) :=
  b_I (fm_isRegister a1) fun r2 =>
    jn_ (fun (y0_35 : Int32) =>
      sp_T t 0 y0_35 fun t35 =>
      jn_ (fun (t_105 : wt_M) =>
        some t_105) fun j105 =>
      if (t35.1 9 0) = (0 : Int32) then
        b_T (fm_clear t35) fun t46 =>
        fm_choose_L52 a1 a2 a3 a4 (fun (t_52 : wt_M) =>
          b_T (fm_keep t_52 a1) fun t102 =>
          j105 t102) 5000 (0 : Int32) t46
      else
        j105 t35) fun j35 =>
    jn_ (fun (_ : Unit) =>
      j35 (1 : Int32)) fun j34 =>
    if r2 = (0 : Int32) then
      j34 ()
    else
      b_I (fm_isRegister a2) fun r9 =>
      if r9 = (0 : Int32) then
        j34 ()
      else
        b_I (fm_isRegister a3) fun r16 =>
        if r16 = (0 : Int32) then
          j34 ()
        else
          b_I (fm_isRegister a4) fun r24 =>
          if r24 = (0 : Int32) then
            j34 ()
          else
            j35 (0 : Int32)

def fm_restrict_L44 (c1 : Int32) (c2 : Int32) (c3 : Int32) (c4 : Int32) (K : wt_M → Option (wt_M)) : Nat → Int32 → wt_M → Option (wt_M)
  | 0, _, _ => none
  | n + 1, x5, t =>
    if (256 : Int32) ≤ x5 then
        K t
      else
        b_I (fm_with x5 c3 c4) fun r62 =>
        b_I (fm_value t c2 r62) fun r65 =>
        b_T (fm_set t x5 r65) fun t68 =>
        fm_restrict_L44 c1 c2 c3 c4 K n (x5 + 1) t68
def fm_restrict (t : wt_M) (a1 : Int32) (a2 : Int32) (a3 : Int32) (a4 : Int32) : Option (wt_M) :=
  b_I (fm_isRegister a1) fun r2 =>
    jn_ (fun (y0_27 : Int32) =>
      sp_T t 0 y0_27 fun t27 =>
      jn_ (fun (t_82 : wt_M) =>
        some t_82) fun j82 =>
      if (t27.1 9 0) = (0 : Int32) then
        b_T (fm_clear t27) fun t38 =>
        fm_restrict_L44 a1 a2 a3 a4 (fun (t_44 : wt_M) =>
          b_T (fm_keep t_44 a1) fun t79 =>
          j82 t79) 5000 (0 : Int32) t38
      else
        j82 t27) fun j27 =>
    jn_ (fun (_ : Unit) =>
      j27 (1 : Int32)) fun j26 =>
    if r2 = (0 : Int32) then
      j26 ()
    else
      b_I (fm_isRegister a2) fun r9 =>
      if r9 = (0 : Int32) then
        j26 ()
      else
        b_I (fm_isVariable a3) fun r16 =>
        if r16 = (0 : Int32) then
          j26 ()
        else
          j27 (0 : Int32)

def fm_quantify_L66 (t : wt_M) (c1 : Int32) (c2 : Int32) (c3 : Int32) (c4 : Int32) (c5 : Int32) (K : Int32 → Option (wt_M)) : Nat → Int32 → Int32 → Option (wt_M)
  | 0, _, _ => none
  | n + 1, x6, x7 =>
    if x7 < (0 : Int32) then
        K x6
      else
        jn_ (fun (y0_100 : Int32) =>
          jn_ (fun (y0_117 : Int32) =>
            fm_quantify_L66 t c1 c2 c3 c4 c5 K n y0_100 y0_117) fun j117 =>
          if x7 = (0 : Int32) then
            j117 (-1 : Int32)
          else
            j117 ((x7 - (1 : Int32)) &&& c3)) fun j100 =>
        jn_ (fun (_ : Unit) =>
          j100 (1 : Int32)) fun j95 =>
        if x6 = (0 : Int32) then
          b_I (fm_value t c2 ((c5 &&& (c3 ^^^ (-1 : Int32))) ||| x7)) fun r87 =>
          if r87 = c4 then
            j100 (0 : Int32)
          else
            j95 ()
        else
          j95 ()
def fm_quantify_L52 (c1 : Int32) (c2 : Int32) (c3 : Int32) (c4 : Int32) (K : wt_M → Option (wt_M)) : Nat → Int32 → wt_M → Option (wt_M)
  | 0, _, _ => none
  | n + 1, x5, t =>
    if (256 : Int32) ≤ x5 then
        K t
      else
        fm_quantify_L66 t c1 c2 c3 c4 x5 (fun (z6_66 : Int32) =>
          jn_ (fun (y0_137 : Int32) =>
            b_T (fm_set t x5 y0_137) fun t137 =>
            fm_quantify_L52 c1 c2 c3 c4 K n (x5 + 1) t137) fun j137 =>
          if z6_66 = c4 then
            j137 (0 : Int32)
          else
            j137 (1 : Int32)) 5000 (0 : Int32) c3
def fm_quantify (t : wt_M) (a1 : Int32) (a2 : Int32) (a3 : Int32) (a4 : Int32) : Option (wt_M) :=
  b_I (fm_isRegister a1) fun r2 =>
    jn_ (fun (y0_35 : Int32) =>
      sp_T t 0 y0_35 fun t35 =>
      jn_ (fun (t_151 : wt_M) =>
        some t_151) fun j151 =>
      if (t35.1 9 0) = (0 : Int32) then
        b_T (fm_clear t35) fun t46 =>
        fm_quantify_L52 a1 a2 a3 a4 (fun (t_52 : wt_M) =>
          b_T (fm_keep t_52 a1) fun t148 =>
          j151 t148) 5000 (0 : Int32) t46
      else
        j151 t35) fun j35 =>
    jn_ (fun (_ : Unit) =>
      j35 (1 : Int32)) fun j15 =>
    if r2 = (0 : Int32) then
      j15 ()
    else
      b_I (fm_isRegister a2) fun r9 =>
      if r9 = (0 : Int32) then
        j15 ()
      else
        b_I (fm_in a3 (0 : Int32) (255 : Int32)) fun r24 =>
        if r24 = (0 : Int32) then
          j35 (2 : Int32)
        else
          j35 (0 : Int32)

def fm_product_L75 (t : wt_M) (c1 : Int32) (c2 : Int32) (c3 : Int32) (c4 : Int32) (c5 : Int32) (K : Int32 → Option (wt_M)) : Nat → Int32 → Int32 → Option (wt_M)
  | 0, _, _ => none
  | n + 1, x6, x7 =>
    if x7 < (0 : Int32) then
        K x6
      else
        jn_ (fun (y0_122 : Int32) =>
          jn_ (fun (y0_140 : Int32) =>
            fm_product_L75 t c1 c2 c3 c4 c5 K n y0_122 y0_140) fun j140 =>
          if x7 = (0 : Int32) then
            j140 (-1 : Int32)
          else
            j140 ((x7 - (1 : Int32)) &&& c4)) fun j122 =>
        jn_ (fun (_ : Unit) =>
          j122 (1 : Int32)) fun j117 =>
        if x6 = (0 : Int32) then
          b_I (fm_value t c2 ((c5 &&& (c4 ^^^ (-1 : Int32))) ||| x7)) fun r101 =>
          jn_ (fun (_ : Unit) =>
            j122 (0 : Int32)) fun j121 =>
          if r101 = (0 : Int32) then
            j121 ()
          else
            b_I (fm_value t c3 ((c5 &&& (c4 ^^^ (-1 : Int32))) ||| x7)) fun r111 =>
            if r111 = (0 : Int32) then
              j121 ()
            else
              j117 ()
        else
          j117 ()
def fm_product_L60 (c1 : Int32) (c2 : Int32) (c3 : Int32) (c4 : Int32) (K : wt_M → Option (wt_M)) : Nat → Int32 → wt_M → Option (wt_M)
  | 0, _, _ => none
  | n + 1, x5, t =>
    if (256 : Int32) ≤ x5 then
        K t
      else
        fm_product_L75 t c1 c2 c3 c4 x5 (fun (z6_75 : Int32) =>
          b_T (fm_set t x5 z6_75) fun t150 =>
          fm_product_L60 c1 c2 c3 c4 K n (x5 + 1) t150) 5000 (0 : Int32) c4
def fm_product (t : wt_M) (a1 : Int32) (a2 : Int32) (a3 : Int32) (a4 : Int32) : Option (wt_M) :=
  b_I (fm_isRegister a1) fun r2 =>
    jn_ (fun (y0_43 : Int32) =>
      sp_T t 0 y0_43 fun t43 =>
      jn_ (fun (t_164 : wt_M) =>
        some t_164) fun j164 =>
      if (t43.1 9 0) = (0 : Int32) then
        b_T (fm_clear t43) fun t54 =>
        fm_product_L60 a1 a2 a3 a4 (fun (t_60 : wt_M) =>
          b_T (fm_keep t_60 a1) fun t161 =>
          j164 t161) 5000 (0 : Int32) t54
      else
        j164 t43) fun j43 =>
    jn_ (fun (_ : Unit) =>
      j43 (1 : Int32)) fun j22 =>
    if r2 = (0 : Int32) then
      j22 ()
    else
      b_I (fm_isRegister a2) fun r9 =>
      if r9 = (0 : Int32) then
        j22 ()
      else
        b_I (fm_isRegister a3) fun r16 =>
        if r16 = (0 : Int32) then
          j22 ()
        else
          b_I (fm_in a4 (0 : Int32) (255 : Int32)) fun r32 =>
          if r32 = (0 : Int32) then
            j43 (2 : Int32)
          else
            j43 (0 : Int32)

def fm_compose_L52 (c1 : Int32) (c2 : Int32) (c3 : Int32) (c4 : Int32) (K : wt_M → Option (wt_M)) : Nat → Int32 → wt_M → Option (wt_M)
  | 0, _, _ => none
  | n + 1, x5, t =>
    if (256 : Int32) ≤ x5 then
        K t
      else
        b_I (fm_value t c4 x5) fun r73 =>
        b_I (fm_with x5 c3 r73) fun r76 =>
        b_I (fm_value t c2 r76) fun r79 =>
        b_T (fm_set t x5 r79) fun t82 =>
        fm_compose_L52 c1 c2 c3 c4 K n (x5 + 1) t82
def fm_compose (t : wt_M) (a1 : Int32) (a2 : Int32) (a3 : Int32) (a4 : Int32) : Option (wt_M) :=
  b_I (fm_isRegister a1) fun r2 =>
    jn_ (fun (y0_35 : Int32) =>
      sp_T t 0 y0_35 fun t35 =>
      jn_ (fun (t_96 : wt_M) =>
        some t_96) fun j96 =>
      if (t35.1 9 0) = (0 : Int32) then
        b_T (fm_clear t35) fun t46 =>
        fm_compose_L52 a1 a2 a3 a4 (fun (t_52 : wt_M) =>
          b_T (fm_keep t_52 a1) fun t93 =>
          j96 t93) 5000 (0 : Int32) t46
      else
        j96 t35) fun j35 =>
    jn_ (fun (_ : Unit) =>
      j35 (1 : Int32)) fun j34 =>
    if r2 = (0 : Int32) then
      j34 ()
    else
      b_I (fm_isRegister a2) fun r9 =>
      if r9 = (0 : Int32) then
        j34 ()
      else
        b_I (fm_isRegister a4) fun r17 =>
        if r17 = (0 : Int32) then
          j34 ()
        else
          b_I (fm_isVariable a3) fun r24 =>
          if r24 = (0 : Int32) then
            j34 ()
          else
            j35 (0 : Int32)

def fm_turn_L36 (c1 : Int32) (c2 : Int32) (K : wt_M → Option (wt_M)) : Nat → Int32 → wt_M → Option (wt_M)
  | 0, _, _ => none
  | n + 1, x3, t =>
    if (256 : Int32) ≤ x3 then
        K t
      else
        b_I (fm_value t c2 (((x3 &&& (85 : Int32)) <<< ((1 : Int32) &&& 31)) ||| ((x3 >>> ((1 : Int32) &&& 31)) &&& (85 : Int32)))) fun r60 =>
        b_T (fm_set t x3 r60) fun t63 =>
        fm_turn_L36 c1 c2 K n (x3 + 1) t63
def fm_turn (t : wt_M) (a1 : Int32) (a2 : Int32) : Option (wt_M) :=
  b_I (fm_isRegister a1) fun r2 =>
    jn_ (fun (y0_20 : Int32) =>
      sp_T t 0 y0_20 fun t20 =>
      jn_ (fun (t_77 : wt_M) =>
        some t_77) fun j77 =>
      if (t20.1 9 0) = (0 : Int32) then
        b_T (fm_clear t20) fun t31 =>
        fm_turn_L36 a1 a2 (fun (t_36 : wt_M) =>
          b_T (fm_keep t_36 a1) fun t74 =>
          j77 t74) 5000 (0 : Int32) t31
      else
        j77 t20) fun j20 =>
    jn_ (fun (_ : Unit) =>
      j20 (1 : Int32)) fun j19 =>
    if r2 = (0 : Int32) then
      j19 ()
    else
      b_I (fm_isRegister a2) fun r9 =>
      if r9 = (0 : Int32) then
        j19 ()
      else
        j20 (0 : Int32)

def fm_truth (t : wt_M) (a1 : Int32) (a2 : Int32) : Option (Int32 × wt_M) :=
  b_I (fm_isRegister a1) fun r2 =>
    jn_ (fun (y0_28 : Int32) =>
      sp_T t 0 y0_28 fun t28 =>
      jn_ (fun (y0_52 : Int32) =>
        rz_ y0_52 (some (y0_52, t28))) fun j52 =>
      jn_ (fun (_ : Unit) =>
        j52 (0 : Int32)) fun j51 =>
      if (t28.1 9 0) = (0 : Int32) then
        b_I (fm_value t28 a1 a2) fun r41 =>
        if r41 = (0 : Int32) then
          j51 ()
        else
          j52 (1 : Int32)
      else
        j51 ()) fun j28 =>
    if r2 = (0 : Int32) then
      j28 (1 : Int32)
    else
      b_I (fm_in a2 (0 : Int32) (255 : Int32)) fun r17 =>
      if r17 = (0 : Int32) then
        j28 (2 : Int32)
      else
        j28 (0 : Int32)

def fm_same_L39 (t : wt_M) (c1 : Int32) (c2 : Int32) (K : Int32 → Option (Int32 × wt_M)) : Nat → Int32 → Int32 → Option (Int32 × wt_M)
  | 0, _, _ => none
  | n + 1, x3, x4 =>
    if (256 : Int32) ≤ x4 then
        K x3
      else
        if x3 = (0 : Int32) then
          K x3
        else
          b_I (fm_value t c1 x4) fun r55 =>
          b_I (fm_value t c2 x4) fun r62 =>
          jn_ (fun (y0_73 : Int32) =>
            fm_same_L39 t c1 c2 K n y0_73 (x4 + 1)) fun j73 =>
          if r55 = r62 then
            j73 (1 : Int32)
          else
            j73 (0 : Int32)
def fm_same (t : wt_M) (a1 : Int32) (a2 : Int32) : Option (Int32 × wt_M) :=
  b_I (fm_isRegister a1) fun r2 =>
    jn_ (fun (y0_20 : Int32) =>
      sp_T t 0 y0_20 fun t20 =>
      jn_ (fun (y0_35 : Int32) =>
        fm_same_L39 t20 a1 a2 (fun (z3_39 : Int32) =>
          rz_ z3_39 (some (z3_39, t20))) 5000 y0_35 (0 : Int32)) fun j35 =>
      if (t20.1 9 0) = (0 : Int32) then
        j35 (1 : Int32)
      else
        j35 (0 : Int32)) fun j20 =>
    jn_ (fun (_ : Unit) =>
      j20 (1 : Int32)) fun j19 =>
    if r2 = (0 : Int32) then
      j19 ()
    else
      b_I (fm_isRegister a2) fun r9 =>
      if r9 = (0 : Int32) then
        j19 ()
      else
        j20 (0 : Int32)

def fm_count_L20 (t : wt_M) (c1 : Int32) (K : Int32 → Option (Int32 × wt_M)) : Nat → Int32 → Int32 → Option (Int32 × wt_M)
  | 0, _, _ => none
  | n + 1, x2, x3 =>
    if (256 : Int32) ≤ x3 then
        K x2
      else
        if (t.1 9 0) = (0 : Int32) then
          b_I (fm_value t c1 x3) fun r38 =>
          jn_ (fun (y0_49 : Int32) =>
            fm_count_L20 t c1 K n (x2 + y0_49) (x3 + 1)) fun j49 =>
          if r38 = (0 : Int32) then
            j49 (0 : Int32)
          else
            j49 (1 : Int32)
        else
          K x2
def fm_count (t : wt_M) (a1 : Int32) : Option (Int32 × wt_M) :=
  b_I (fm_isRegister a1) fun r2 =>
    jn_ (fun (y0_13 : Int32) =>
      sp_T t 0 y0_13 fun t13 =>
      fm_count_L20 t13 a1 (fun (z2_20 : Int32) =>
        some (z2_20, t13)) 5000 (0 : Int32) (0 : Int32)) fun j13 =>
    if r2 = (0 : Int32) then
      j13 (1 : Int32)
    else
      j13 (0 : Int32)

def fm_least_L22 (t : wt_M) (c1 : Int32) (K : Int32 → Option (Int32 × wt_M)) : Nat → Int32 → Int32 → Option (Int32 × wt_M)
  | 0, _, _ => none
  | n + 1, x2, x3 =>
    if x3 < (0 : Int32) then
        K x2
      else
        if (t.1 9 0) = (0 : Int32) then
          b_I (fm_value t c1 x3) fun r36 =>
          jn_ (fun (y0_47 : Int32) =>
            fm_least_L22 t c1 K n y0_47 (x3 + (-1))) fun j47 =>
          if r36 = (0 : Int32) then
            j47 x2
          else
            j47 x3
        else
          K x2
def fm_least (t : wt_M) (a1 : Int32) : Option (Int32 × wt_M) :=
  b_I (fm_isRegister a1) fun r2 =>
    jn_ (fun (y0_13 : Int32) =>
      sp_T t 0 y0_13 fun t13 =>
      fm_least_L22 t13 a1 (fun (z2_22 : Int32) =>
        jn_ (fun (y0_66 : Int32) =>
          some (y0_66, t13)) fun j66 =>
        if (t13.1 9 0) ≤ (0 : Int32) then
          j66 z2_22
        else
          j66 (0 : Int32)) 5000 (-1 : Int32) (255 : Int32)) fun j13 =>
    if r2 = (0 : Int32) then
      j13 (1 : Int32)
    else
      j13 (0 : Int32)

def fm_dependsOn_L13 (t : wt_M) (c1 : Int32) (c3 : Int32) (K : Int32 → Option (Int32)) : Nat → Int32 → Int32 → Option (Int32)
  | 0, _, _ => none
  | n + 1, x2, x4 =>
    if (256 : Int32) ≤ x4 then
        K x2
      else
        b_I (fm_value t c1 x4) fun r26 =>
        b_I (fm_value t c1 (x4 ^^^ ((1 : Int32) <<< (c3 &&& 31)))) fun r37 =>
        jn_ (fun (y0_50 : Int32) =>
          fm_dependsOn_L13 t c1 c3 K n (x2 ||| y0_50) (x4 + 1)) fun j50 =>
        if r26 = r37 then
          j50 (0 : Int32)
        else
          j50 ((1 : Int32) <<< (c3 &&& 31))
def fm_dependsOn_L4 (t : wt_M) (c1 : Int32) : Nat → Int32 → Int32 → Option (Int32)
  | 0, _, _ => none
  | n + 1, x2, x3 =>
    if (8 : Int32) ≤ x3 then
        some x2
      else
        fm_dependsOn_L13 t c1 x3 (fun (z2_13 : Int32) =>
          fm_dependsOn_L4 t c1 n z2_13 (x3 + 1)) 5000 x2 (0 : Int32)
def fm_dependsOn (t : wt_M) (a1 : Int32) : Option (Int32) :=
  fm_dependsOn_L4 t a1 5000 (0 : Int32) (0 : Int32)

def fm_depends (t : wt_M) (a1 : Int32) : Option (Int32 × wt_M) :=
  b_I (fm_isRegister a1) fun r2 =>
    jn_ (fun (y0_13 : Int32) =>
      sp_T t 0 y0_13 fun t13 =>
      jn_ (fun (y0_32 : Int32) =>
        some (y0_32, t13)) fun j32 =>
      if (t13.1 9 0) ≤ (0 : Int32) then
        b_I (fm_dependsOn t13 a1) fun r29 =>
        j32 r29
      else
        j32 (0 : Int32)) fun j13 =>
    if r2 = (0 : Int32) then
      j13 (1 : Int32)
    else
      j13 (0 : Int32)

def fm_cutBy_L3 (c1 : Int32) (c2 : Int32) (c3 : Int32) : Nat → Int32 → wt_M → Option (wt_M)
  | 0, _, _ => none
  | n + 1, x4, t =>
    if (4 : Int32) ≤ x4 then
        some t
      else
        rd_L (t.2 1) 16000 (((4 : Int32) * c1) + x4) fun v19 =>
        jn_ (fun (x5_127 : Int64) =>
          wr_L t 0 72 ((68 : Int32) + x4) x5_127 fun t138 =>
          fm_cutBy_L3 c1 c2 c3 n (x4 + 1) t138) fun j127 =>
        if (6 : Int32) ≤ c2 then
          jn_ (fun (y0_123 : Int32) =>
            rd_L (t.2 1) 16000 (((4 : Int32) * c1) + y0_123) fun v124 =>
            j127 v124) fun j123 =>
          if c3 = (0 : Int32) then
            j123 (x4 &&& (((1 : Int32) <<< ((c2 - (6 : Int32)) &&& 31)) ^^^ (-1 : Int32)))
          else
            j123 (x4 ||| ((1 : Int32) <<< ((c2 - (6 : Int32)) &&& 31)))
        else
          jn_ (fun (y0_57 : Int64) =>
            jn_ (fun (y0_84 : Int64) =>
              j127 y0_84) fun j84 =>
            if c3 = (0 : Int32) then
              j84 (y0_57 ||| (y0_57 <<< (((1 : Int32) <<< (c2 &&& 31)).toInt64 &&& 63)))
            else
              j84 (y0_57 ||| ((y0_57.toUInt64 >>> (((1 : Int32) <<< (c2 &&& 31)).toInt64.toUInt64 &&& Int64.toUInt64 63)).toInt64))) fun j57 =>
          if c3 = (0 : Int32) then
            rd_L (t.2 2) 6 c2 fun v51 =>
            j57 (v19 &&& (v51 ^^^ (-1 : Int64)))
          else
            rd_L (t.2 2) 6 c2 fun v39 =>
            j57 (v19 &&& v39)
def fm_cutBy (t : wt_M) (a1 : Int32) (a2 : Int32) (a3 : Int32) : Option (wt_M) :=
  fm_cutBy_L3 a1 a2 a3 5000 (0 : Int32) t

def fm_put_L32 (t : wt_M) (c1 : Int32) (K : Int32 → Option (Int32 × wt_M)) : Nat → Int32 → Int32 → Option (Int32 × wt_M)
  | 0, _, _ => none
  | n + 1, x2, x3 =>
    if (4 : Int32) ≤ x3 then
        K x2
      else
        jn_ (fun (y0_64 : Int32) =>
          fm_put_L32 t c1 K n y0_64 (x3 + 1)) fun j64 =>
        jn_ (fun (_ : Unit) =>
          j64 (0 : Int32)) fun j63 =>
        if x2 = (0 : Int32) then
          j63 ()
        else
          rd_L (t.2 0) 72 (c1 + x3) fun v48 =>
          rd_L (t.2 0) 72 c1 fun v54 =>
          if v48 = v54 then
            j64 (1 : Int32)
          else
            j63 ()
def fm_put_L93 (t : wt_M) (c1 : Int32) (c3 : Int32) (K : Int32 → Option (Int32 × wt_M)) : Nat → Int32 → Int32 → Option (Int32 × wt_M)
  | 0, _, _ => none
  | n + 1, x4, x5 =>
    if (4 : Int32) ≤ x5 then
        K x4
      else
        if x4 = (0 : Int32) then
          K x4
        else
          rd_L (t.2 1) 16000 (((4 : Int32) * c3) + x5) fun v114 =>
          rd_L (t.2 0) 72 (c1 + x5) fun v123 =>
          jn_ (fun (y0_133 : Int32) =>
            fm_put_L93 t c1 c3 K n y0_133 (x5 + 1)) fun j133 =>
          if v114 = v123 then
            j133 (1 : Int32)
          else
            j133 (0 : Int32)
def fm_put_L79 (t : wt_M) (c1 : Int32) (K : Unit → Option (Int32 × wt_M)) : Nat → Int32 → Option (Int32 × wt_M)
  | 0, _ => none
  | n + 1, x3 =>
    if (t.1 9 1) ≤ x3 then
        K ()
      else
        fm_put_L93 t c1 x3 (fun (z4_93 : Int32) =>
          if z4_93 = (0 : Int32) then
            fm_put_L79 t c1 K n (x3 + 1)
          else
            some (x3, t)) 5000 (1 : Int32) (0 : Int32)
def fm_put_L156 (c1 : Int32) (K : wt_M → Option (Int32 × wt_M)) : Nat → Int32 → wt_M → Option (Int32 × wt_M)
  | 0, _, _ => none
  | n + 1, x3, t =>
    if (4 : Int32) ≤ x3 then
        K t
      else
        rd_L (t.2 0) 72 (c1 + x3) fun v180 =>
        wr_L t 1 16000 (((4 : Int32) * (t.1 9 1)) + x3) v180 fun t181 =>
        fm_put_L156 c1 K n (x3 + 1) t181
def fm_put (t : wt_M) (a1 : Int32) : Option (Int32 × wt_M) :=
  rd_L (t.2 0) 72 a1 fun v5 =>
    jn_ (fun (y0_29 : Int32) =>
      fm_put_L32 t a1 (fun (z2_32 : Int32) =>
        if z2_32 = (0 : Int32) then
          fm_put_L79 t a1 (fun (_ : Unit) =>
            fm_put_L156 a1 (fun (t_156 : wt_M) =>
              wr_T t_156 4 4000 (t_156.1 9 1) (-1 : Int32) fun t197 =>
              sp_T t197 1 ((t197.1 9 1) + (1 : Int32)) fun t205 =>
              some (((t205.1 9 1) - (1 : Int32)), t205)) 5000 (0 : Int32) t) 5000 (0 : Int32)
        else
          some ((-1 : Int32), t)) 5000 y0_29 (1 : Int32)) fun j29 =>
    jn_ (fun (_ : Unit) =>
      j29 (1 : Int32)) fun j24 =>
    if v5 = (0 : Int64) then
      j24 ()
    else
      rd_L (t.2 0) 72 a1 fun v16 =>
      if v16 = (-1 : Int64) then
        j24 ()
      else
        j29 (0 : Int32)

def fm_tell (t : wt_M) (a1 : Int32) (a2 : Int32) : Option (wt_M) :=
  jn_ (fun (t_41 : wt_M) =>
      some t_41) fun j41 =>
    if a1 < (0 : Int32) then
      j41 t
    else
      rd_ (t.1 4) 4000 a1 fun v9 =>
      if a2 ≤ v9 then
        j41 t
      else
        wr_T t 4 4000 a1 a2 fun t20 =>
        wr_T t20 3 4000 (t20.1 9 3) a1 fun t30 =>
        sp_T t30 3 ((t30.1 9 3) + (1 : Int32)) fun t38 =>
        j41 t38

def fm_nodesOf_L12 (c2 : Int32) (K : wt_M → Option (Int32 × wt_M)) : Nat → Int32 → wt_M → Option (Int32 × wt_M)
  | 0, _, _ => none
  | n + 1, x3, t =>
    if c2 < x3 then
        K t
      else
        b_IT (fm_put t ((4 : Int32) * x3)) fun r22 t22 =>
        b_T (fm_tell t22 r22 (0 : Int32)) fun t26 =>
        fm_nodesOf_L12 c2 K n (x3 + 1) t26
def fm_nodesOf_L54 (c3 : Int32) (K : wt_M → Option (Int32 × wt_M)) : Nat → Int32 → wt_M → Option (Int32 × wt_M)
  | 0, _, _ => none
  | n + 1, x4, t =>
    if (t.1 9 3) ≤ x4 then
        K t
      else
        rd_ (t.1 3) 4000 x4 fun v75 =>
        wr_T t 2 4000 x4 v75 fun t76 =>
        fm_nodesOf_L54 c3 K n (x4 + 1) t76
def fm_nodesOf_L103 (c3 : Int32) (c4 : Int32) (K : wt_M → Option (Int32 × wt_M)) : Nat → Int32 → wt_M → Option (Int32 × wt_M)
  | 0, _, _ => none
  | n + 1, x5, t =>
    if (2 : Int32) ≤ x5 then
        K t
      else
        rd_ (t.1 2) 4000 c4 fun v116 =>
        rd_ (t.1 0) 8 c3 fun v122 =>
        jn_ (fun (y0_134 : Int32) =>
          b_T (fm_cutBy t v116 v122 y0_134) fun t134 =>
          b_IT (fm_put t134 (68 : Int32)) fun r141 t141 =>
          b_T (fm_tell t141 r141 (c3 + (1 : Int32))) fun t147 =>
          fm_nodesOf_L103 c3 c4 K n (x5 + 1) t147) fun j134 =>
        if x5 = (1 : Int32) then
          j134 (1 : Int32)
        else
          j134 (0 : Int32)
def fm_nodesOf_L91 (c3 : Int32) (K : wt_M → Option (Int32 × wt_M)) : Nat → Int32 → wt_M → Option (Int32 × wt_M)
  | 0, _, _ => none
  | n + 1, x4, t =>
    if (t.1 9 2) ≤ x4 then
        K t
      else
        fm_nodesOf_L103 c3 x4 (fun (t_103 : wt_M) =>
          fm_nodesOf_L91 c3 K n (x4 + 1) t_103) 5000 (0 : Int32) t
def fm_nodesOf_L37 : Nat → Int32 → wt_M → Option (Int32 × wt_M)
  | 0, _, _ => none
  | n + 1, x3, t =>
    if (8 : Int32) ≤ x3 then
        some ((t.1 9 1), t)
      else
        sp_T t 2 (t.1 9 3) fun t48 =>
        fm_nodesOf_L54 x3 (fun (t_54 : wt_M) =>
          sp_T t_54 3 (0 : Int32) fun t85 =>
          fm_nodesOf_L91 x3 (fun (t_91 : wt_M) =>
            fm_nodesOf_L37 n (x3 + 1) t_91) 5000 (0 : Int32) t85) 5000 (0 : Int32) t48
def fm_nodesOf (t : wt_M) (a1 : Int32) (a2 : Int32) : Option (Int32 × wt_M) :=
  sp_T t 1 (0 : Int32) fun t2 =>
    sp_T t2 3 (0 : Int32) fun t7 =>
    fm_nodesOf_L12 a2 (fun (t_12 : wt_M) =>
      fm_nodesOf_L37 5000 (0 : Int32) t_12) 5000 a1 t7

def fm_nodes (t : wt_M) (a1 : Int32) : Option (Int32 × wt_M) :=
  b_I (fm_isRegister a1) fun r2 =>
    jn_ (fun (y0_13 : Int32) =>
      sp_T t 0 y0_13 fun t13 =>
      jn_ (fun (y0_33 : Int32) (t_33 : wt_M) =>
        some (y0_33, t_33)) fun j33 =>
      if (t13.1 9 0) ≤ (0 : Int32) then
        b_IT (fm_nodesOf t13 a1 a1) fun r30 t30 =>
        j33 r30 t30
      else
        j33 (0 : Int32) t13) fun j13 =>
    if r2 = (0 : Int32) then
      j13 (1 : Int32)
    else
      j13 (0 : Int32)

def fm_heap (t : wt_M) : Option (Int32 × wt_M) :=
  sp_T t 0 (0 : Int32) fun t2 =>
    b_IT (fm_nodesOf t2 (0 : Int32) (15 : Int32)) fun r9 t9 =>
    some (r9, t9)

def fm_order (t : wt_M) (a1 : Int32) : Option (Int32 × wt_M) :=
  b_I (fm_in a1 (0 : Int32) (7 : Int32)) fun r5 =>
    jn_ (fun (y0_16 : Int32) =>
      sp_T t 0 y0_16 fun t16 =>
      jn_ (fun (y0_36 : Int32) =>
        some (y0_36, t16)) fun j36 =>
      if (t16.1 9 0) ≤ (0 : Int32) then
        rd_ (t16.1 0) 8 a1 fun v35 =>
        j36 v35
      else
        j36 (0 : Int32)) fun j16 =>
    if r5 = (0 : Int32) then
      j16 (1 : Int32)
    else
      j16 (0 : Int32)

def fm_swap (t : wt_M) (a1 : Int32) : Option (Int32 × wt_M) :=
  b_I (fm_in a1 (0 : Int32) (6 : Int32)) fun r5 =>
    jn_ (fun (y0_16 : Int32) =>
      sp_T t 0 y0_16 fun t16 =>
      if (t16.1 9 0) ≤ (0 : Int32) then
        rd_ (t16.1 0) 8 a1 fun v33 =>
        rd_ (t16.1 0) 8 (a1 + (1 : Int32)) fun v47 =>
        wr_T t16 0 8 a1 v47 fun t48 =>
        wr_T t48 0 8 (a1 + (1 : Int32)) v33 fun t57 =>
        b_IT (fm_nodesOf t57 (0 : Int32) (15 : Int32)) fun r62 t62 =>
        some (r62, t62)
      else
        some ((0 : Int32), t16)) fun j16 =>
    if r5 = (0 : Int32) then
      j16 (1 : Int32)
    else
      j16 (0 : Int32)

def fm_lay_L5 (c1 : Int32) (c2 : Int32) (c3 : Int32) (K : wt_M → Option (wt_M)) : Nat → Int32 → wt_M → Option (wt_M)
  | 0, _, _ => none
  | n + 1, x4, t =>
    if (8 : Int32) ≤ x4 then
        K t
      else
        rd_ (t.1 0) 8 x4 fun v24 =>
        wr_T t 1 8 x4 v24 fun t25 =>
        fm_lay_L5 c1 c2 c3 K n (x4 + 1) t25
def fm_lay_L35 (c1 : Int32) (c2 : Int32) (K : wt_M → Option (wt_M)) : Nat → Int32 → Int32 → wt_M → Option (wt_M)
  | 0, _, _, _ => none
  | n + 1, x3, x4, t =>
    if (8 : Int32) ≤ x4 then
        K t
      else
        rd_ (t.1 1) 8 x4 fun v48 =>
        jn_ (fun (x3_82 : Int32) (t_82 : wt_M) =>
          fm_lay_L35 c1 c2 K n x3_82 (x4 + 1) t_82) fun j82 =>
        if v48 = c1 then
          j82 x3 t
        else
          jn_ (fun (y0_65 : Int32) =>
            rd_ (t.1 1) 8 x4 fun v77 =>
            wr_T t 0 8 y0_65 v77 fun t78 =>
            j82 (y0_65 + 1) t78) fun j65 =>
          if x3 = c2 then
            j65 (x3 + (1 : Int32))
          else
            j65 x3
def fm_lay (t : wt_M) (a1 : Int32) (a2 : Int32) : Option (wt_M) :=
  fm_lay_L5 a1 a2 (0 : Int32) (fun (t_5 : wt_M) =>
      fm_lay_L35 a1 a2 (fun (t_35 : wt_M) =>
        wr_T t_35 0 8 a2 a1 fun t94 =>
        some t94) 5000 (0 : Int32) (0 : Int32) t_5) 5000 (0 : Int32) t

def fm_place (t : wt_M) (a1 : Int32) (a2 : Int32) : Option (Int32 × wt_M) :=
  b_I (fm_isVariable a1) fun r2 =>
    jn_ (fun (y0_23 : Int32) =>
      sp_T t 0 y0_23 fun t23 =>
      if (t23.1 9 0) ≤ (0 : Int32) then
        b_T (fm_lay t23 a1 a2) fun t38 =>
        b_IT (fm_nodesOf t38 (0 : Int32) (15 : Int32)) fun r45 t45 =>
        some (r45, t45)
      else
        some ((0 : Int32), t23)) fun j23 =>
    jn_ (fun (_ : Unit) =>
      j23 (1 : Int32)) fun j22 =>
    if r2 = (0 : Int32) then
      j22 ()
    else
      b_I (fm_in a2 (0 : Int32) (7 : Int32)) fun r12 =>
      if r12 = (0 : Int32) then
        j22 ()
      else
        j23 (0 : Int32)

def fm_sift_L33 (c1 : Int32) (K : Int32 → Int32 → wt_M → Option (Int32 × wt_M)) : Nat → Int32 → Int32 → Int32 → wt_M → Option (Int32 × wt_M)
  | 0, _, _, _, _ => none
  | n + 1, x2, x3, x4, t =>
    if (8 : Int32) ≤ x4 then
        K x2 x3 t
      else
        b_T (fm_lay t c1 x4) fun t44 =>
        b_IT (fm_nodesOf t44 (0 : Int32) (15 : Int32)) fun r51 t51 =>
        jn_ (fun (y0_68 : Int32) =>
          jn_ (fun (y0_81 : Int32) =>
            fm_sift_L33 c1 K n y0_68 y0_81 (x4 + 1) t51) fun j81 =>
          if x3 ≤ r51 then
            j81 x3
          else
            j81 r51) fun j68 =>
        if x3 ≤ r51 then
          j68 x2
        else
          j68 x4
def fm_sift (t : wt_M) (a1 : Int32) : Option (Int32 × wt_M) :=
  b_I (fm_isVariable a1) fun r2 =>
    jn_ (fun (y0_13 : Int32) =>
      sp_T t 0 y0_13 fun t13 =>
      if (t13.1 9 0) ≤ (0 : Int32) then
        fm_sift_L33 a1 (fun (z2_33 : Int32) (z3_33 : Int32) (t_33 : wt_M) =>
          b_T (fm_lay t_33 a1 z2_33) fun t91 =>
          some (z3_33, t91)) 5000 (0 : Int32) (1000000 : Int32) (0 : Int32) t13
      else
        some ((0 : Int32), t13)) fun j13 =>
    if r2 = (0 : Int32) then
      j13 (1 : Int32)
    else
      j13 (0 : Int32)

def fm_spread (a1 : Int32) : Option (Int32) :=
  some ((((a1 &&& (1 : Int32)) ||| ((a1 &&& (2 : Int32)) <<< ((1 : Int32) &&& 31))) ||| ((a1 &&& (4 : Int32)) <<< ((2 : Int32) &&& 31))) ||| ((a1 &&& (8 : Int32)) <<< ((3 : Int32) &&& 31)))

def fm_isSet (t : wt_M) (a1 : Int32) : Option (Int32) :=
  b_I (fm_dependsOn t a1) fun r2 =>
    jn_ (fun (y0_17 : Int32) =>
      rz_ y0_17 (some y0_17)) fun j17 =>
    if (r2 &&& (170 : Int32)) = (0 : Int32) then
      j17 (1 : Int32)
    else
      j17 (0 : Int32)

def fm_statesOf_L4 (t : wt_M) (c1 : Int32) : Nat → Int32 → Int32 → Option (Int32)
  | 0, _, _ => none
  | n + 1, x2, x3 =>
    if (16 : Int32) ≤ x3 then
        some x2
      else
        b_I (fm_spread x3) fun r14 =>
        b_I (fm_value t c1 r14) fun r17 =>
        jn_ (fun (y0_30 : Int32) =>
          fm_statesOf_L4 t c1 n (x2 ||| y0_30) (x3 + 1)) fun j30 =>
        if r17 = (0 : Int32) then
          j30 (0 : Int32)
        else
          j30 ((1 : Int32) <<< (x3 &&& 31))
def fm_statesOf (t : wt_M) (a1 : Int32) : Option (Int32) :=
  fm_statesOf_L4 t a1 5000 (0 : Int32) (0 : Int32)

def fm_keepStates_L6 (c1 : Int32) (c2 : Int32) (K : wt_M → Option (wt_M)) : Nat → Int32 → wt_M → Option (wt_M)
  | 0, _, _ => none
  | n + 1, x3, t =>
    if (256 : Int32) ≤ x3 then
        K t
      else
        jn_ (fun (y0_54 : Int32) =>
          b_T (fm_set t x3 y0_54) fun t54 =>
          fm_keepStates_L6 c1 c2 K n (x3 + 1) t54) fun j54 =>
        if ((c2 >>> (((((x3 &&& (1 : Int32)) ||| ((x3 >>> ((1 : Int32) &&& 31)) &&& (2 : Int32))) ||| ((x3 >>> ((2 : Int32) &&& 31)) &&& (4 : Int32))) ||| ((x3 >>> ((3 : Int32) &&& 31)) &&& (8 : Int32))) &&& 31)) &&& (1 : Int32)) = (1 : Int32) then
          j54 (1 : Int32)
        else
          j54 (0 : Int32)
def fm_keepStates (t : wt_M) (a1 : Int32) (a2 : Int32) : Option (wt_M) :=
  b_T (fm_clear t) fun t1 =>
    fm_keepStates_L6 a1 a2 (fun (t_6 : wt_M) =>
      b_T (fm_keep t_6 a1) fun t65 =>
      some t65) 5000 (0 : Int32) t1

def fm_learnSteps_L17 (c1 : Int32) (c2 : Int32) (K : wt_M → Option (wt_M)) : Nat → Int32 → wt_M → Option (wt_M)
  | 0, _, _ => none
  | n + 1, x3, t =>
    if (16 : Int32) ≤ x3 then
        K t
      else
        rd_ (t.1 5) 16 c2 fun v29 =>
        b_I (fm_spread c2) fun r33 =>
        b_I (fm_spread x3) fun r37 =>
        b_I (fm_value t c1 (r33 ||| (r37 <<< ((1 : Int32) &&& 31)))) fun r43 =>
        jn_ (fun (y0_56 : Int32) =>
          wr_T t 5 16 c2 (v29 ||| y0_56) fun t57 =>
          fm_learnSteps_L17 c1 c2 K n (x3 + 1) t57) fun j56 =>
        if r43 = (0 : Int32) then
          j56 (0 : Int32)
        else
          j56 ((1 : Int32) <<< (x3 &&& 31))
def fm_learnSteps_L2 (c1 : Int32) : Nat → Int32 → wt_M → Option (wt_M)
  | 0, _, _ => none
  | n + 1, x2, t =>
    if (16 : Int32) ≤ x2 then
        some t
      else
        wr_T t 5 16 x2 (0 : Int32) fun t14 =>
        fm_learnSteps_L17 c1 x2 (fun (t_17 : wt_M) =>
          fm_learnSteps_L2 c1 n (x2 + 1) t_17) 5000 (0 : Int32) t14
def fm_learnSteps (t : wt_M) (a1 : Int32) : Option (wt_M) :=
  fm_learnSteps_L2 a1 5000 (0 : Int32) t

def fm_imageOf_L4 (t : wt_M) (c1 : Int32) : Nat → Int32 → Int32 → Option (Int32)
  | 0, _, _ => none
  | n + 1, x2, x3 =>
    if (16 : Int32) ≤ x3 then
        some x2
      else
        jn_ (fun (y0_30 : Int32) =>
          fm_imageOf_L4 t c1 n (x2 ||| y0_30) (x3 + 1)) fun j30 =>
        if ((c1 >>> (x3 &&& 31)) &&& (1 : Int32)) = (1 : Int32) then
          rd_ (t.1 5) 16 x3 fun v25 =>
          j30 v25
        else
          j30 (0 : Int32)
def fm_imageOf (t : wt_M) (a1 : Int32) : Option (Int32) :=
  fm_imageOf_L4 t a1 5000 (0 : Int32) (0 : Int32)

def fm_stepsTo_L4 (t : wt_M) (c1 : Int32) : Nat → Int32 → Int32 → Option (Int32)
  | 0, _, _ => none
  | n + 1, x2, x3 =>
    if (16 : Int32) ≤ x3 then
        some x2
      else
        rd_ (t.1 5) 16 x3 fun v16 =>
        jn_ (fun (y0_29 : Int32) =>
          fm_stepsTo_L4 t c1 n (x2 ||| y0_29) (x3 + 1)) fun j29 =>
        if (v16 &&& c1) = (0 : Int32) then
          j29 (0 : Int32)
        else
          j29 ((1 : Int32) <<< (x3 &&& 31))
def fm_stepsTo (t : wt_M) (a1 : Int32) : Option (Int32) :=
  fm_stepsTo_L4 t a1 5000 (0 : Int32) (0 : Int32)

def fm_sizeOf_L4 (c0 : Int32) : Nat → Int32 → Int32 → Option (Int32)
  | 0, _, _ => none
  | n + 1, x1, x2 =>
    if (16 : Int32) ≤ x2 then
        some x1
      else
        fm_sizeOf_L4 c0 n (x1 + ((c0 >>> (x2 &&& 31)) &&& (1 : Int32))) (x2 + 1)
def fm_sizeOf (a1 : Int32) : Option (Int32) :=
  fm_sizeOf_L4 a1 5000 (0 : Int32) (0 : Int32)

def fm_image (t : wt_M) (a1 : Int32) (a2 : Int32) (a3 : Int32) : Option (Int32 × wt_M) :=
  b_I (fm_isRegister a1) fun r2 =>
    jn_ (fun (y0_39 : Int32) =>
      sp_T t 0 y0_39 fun t39 =>
      if (t39.1 9 0) ≤ (0 : Int32) then
        b_T (fm_learnSteps t39 a2) fun t53 =>
        b_I (fm_statesOf t53 a3) fun r59 =>
        b_I (fm_imageOf t53 r59) fun r62 =>
        b_T (fm_keepStates t53 a1 r62) fun t71 =>
        b_I (fm_sizeOf r62) fun r76 =>
        some (r76, t71)
      else
        some ((0 : Int32), t39)) fun j39 =>
    jn_ (fun (_ : Unit) =>
      j39 (1 : Int32)) fun j22 =>
    if r2 = (0 : Int32) then
      j22 ()
    else
      b_I (fm_isRegister a2) fun r9 =>
      if r9 = (0 : Int32) then
        j22 ()
      else
        b_I (fm_isRegister a3) fun r16 =>
        if r16 = (0 : Int32) then
          j22 ()
        else
          b_I (fm_isSet t a3) fun r28 =>
          if r28 = (0 : Int32) then
            j39 (2 : Int32)
          else
            j39 (0 : Int32)

def fm_reach_L66 (t : wt_M) (c1 : Int32) (K : Int32 → Int32 → Option (Int32 × wt_M)) : Nat → Int32 → Int32 → Option (Int32 × wt_M)
  | 0, _, _ => none
  | n + 1, x4, x5 =>
    b_I (fm_imageOf t x4) fun r69 =>
      if (r69 &&& (x4 ^^^ (-1 : Int32))) = (0 : Int32) then
        K x4 x5
      else
        b_I (fm_imageOf t x4) fun r85 =>
        fm_reach_L66 t c1 K n (x4 ||| r85) (x5 + 1)
def fm_reach (t : wt_M) (a1 : Int32) (a2 : Int32) (a3 : Int32) : Option (Int32 × wt_M) :=
  b_I (fm_isRegister a1) fun r2 =>
    jn_ (fun (y0_39 : Int32) =>
      sp_T t 0 y0_39 fun t39 =>
      if (t39.1 9 0) ≤ (0 : Int32) then
        b_T (fm_learnSteps t39 a2) fun t53 =>
        b_I (fm_statesOf t53 a3) fun r58 =>
        fm_reach_L66 t53 a1 (fun (z4_66 : Int32) (z5_66 : Int32) =>
          b_T (fm_keepStates t53 a1 z4_66) fun t101 =>
          some (z5_66, t101)) 5000 r58 (0 : Int32)
      else
        some ((0 : Int32), t39)) fun j39 =>
    jn_ (fun (_ : Unit) =>
      j39 (1 : Int32)) fun j22 =>
    if r2 = (0 : Int32) then
      j22 ()
    else
      b_I (fm_isRegister a2) fun r9 =>
      if r9 = (0 : Int32) then
        j22 ()
      else
        b_I (fm_isRegister a3) fun r16 =>
        if r16 = (0 : Int32) then
          j22 ()
        else
          b_I (fm_isSet t a3) fun r28 =>
          if r28 = (0 : Int32) then
            j39 (2 : Int32)
          else
            j39 (0 : Int32)

def fm_until_L5 (t : wt_M) (c1 : Int32) : Nat → Int32 → Int32 → Option (Int32)
  | 0, _, _ => none
  | n + 1, x3, x4 =>
    if (16 : Int32) ≤ x4 then
        some x3
      else
        b_I (fm_stepsTo t x3) fun r16 =>
        fm_until_L5 t c1 n (x3 ||| (c1 &&& r16)) (x4 + 1)
def fm_until (t : wt_M) (a1 : Int32) (a2 : Int32) : Option (Int32) :=
  fm_until_L5 t a1 5000 a2 (0 : Int32)

def fm_always_L4 (t : wt_M) : Nat → Int32 → Int32 → Option (Int32)
  | 0, _, _ => none
  | n + 1, x2, x3 =>
    if (16 : Int32) ≤ x3 then
        some x2
      else
        b_I (fm_stepsTo t x2) fun r13 =>
        fm_always_L4 t n (x2 &&& r13) (x3 + 1)
def fm_always (t : wt_M) (a1 : Int32) : Option (Int32) :=
  fm_always_L4 t 5000 a1 (0 : Int32)

def fm_formulaOf (t : wt_M) (a1 : Int32) (a2 : Int32) (a3 : Int32) : Option (Int32) :=
  if a1 = (0 : Int32) then
      b_I (fm_stepsTo t a2) fun r62 =>
      some r62
    else if a1 = (1 : Int32) then
      b_I (fm_until t (65535 : Int32) a2) fun r70 =>
      some r70
    else if a1 = (2 : Int32) then
      b_I (fm_always t a2) fun r76 =>
      some r76
    else if a1 = (3 : Int32) then
      b_I (fm_until t a2 a3) fun r83 =>
      some r83
    else if a1 = (4 : Int32) then
      b_I (fm_stepsTo t ((a2 ^^^ (-1 : Int32)) &&& (65535 : Int32))) fun r90 =>
      some ((r90 ^^^ (-1 : Int32)) &&& (65535 : Int32))
    else if a1 = (5 : Int32) then
      b_I (fm_always t ((a2 ^^^ (-1 : Int32)) &&& (65535 : Int32))) fun r102 =>
      some ((r102 ^^^ (-1 : Int32)) &&& (65535 : Int32))
    else if a1 = (6 : Int32) then
      b_I (fm_until t (65535 : Int32) ((a2 ^^^ (-1 : Int32)) &&& (65535 : Int32))) fun r116 =>
      some ((r116 ^^^ (-1 : Int32)) &&& (65535 : Int32))
    else       b_I (fm_always t ((a3 ^^^ (-1 : Int32)) &&& (65535 : Int32))) fun r128 =>
      b_I (fm_until t ((a3 ^^^ (-1 : Int32)) &&& (65535 : Int32)) (((a2 ^^^ (-1 : Int32)) &&& (65535 : Int32)) &&& ((a3 ^^^ (-1 : Int32)) &&& (65535 : Int32)))) fun r139 =>
      some (((r128 ||| r139) ^^^ (-1 : Int32)) &&& (65535 : Int32))

def fm_check (t : wt_M) (a1 : Int32) (a2 : Int32) (a3 : Int32) (a4 : Int32) (a5 : Int32) : Option (Int32 × wt_M) :=
  b_I (fm_isRegister a1) fun r2 =>
    jn_ (fun (y0_72 : Int32) =>
      sp_T t 0 y0_72 fun t72 =>
      if (t72.1 9 0) ≤ (0 : Int32) then
        b_T (fm_learnSteps t72 a2) fun t86 =>
        b_I (fm_statesOf t86 a4) fun r94 =>
        b_I (fm_statesOf t86 a5) fun r100 =>
        b_I (fm_formulaOf t86 a3 r94 r100) fun r103 =>
        b_T (fm_keepStates t86 a1 r103) fun t112 =>
        b_I (fm_sizeOf r103) fun r117 =>
        some (r117, t112)
      else
        some ((0 : Int32), t72)) fun j72 =>
    jn_ (fun (_ : Unit) =>
      j72 (1 : Int32)) fun j31 =>
    if r2 = (0 : Int32) then
      j31 ()
    else
      b_I (fm_isRegister a2) fun r9 =>
      if r9 = (0 : Int32) then
        j31 ()
      else
        b_I (fm_isRegister a4) fun r17 =>
        if r17 = (0 : Int32) then
          j31 ()
        else
          b_I (fm_isRegister a5) fun r25 =>
          if r25 = (0 : Int32) then
            j31 ()
          else
            b_I (fm_in a3 (0 : Int32) (7 : Int32)) fun r39 =>
            if r39 = (0 : Int32) then
              j72 (2 : Int32)
            else
              b_I (fm_isSet t a4) fun r52 =>
              jn_ (fun (_ : Unit) =>
                j72 (3 : Int32)) fun j71 =>
              if r52 = (0 : Int32) then
                j71 ()
              else
                b_I (fm_isSet t a5) fun r61 =>
                if r61 = (0 : Int32) then
                  j71 ()
                else
                  j72 (0 : Int32)

def fm_astray (t : wt_M) : Option (Int32 × wt_M) :=
  sp_T t 0 (0 : Int32) fun t2 =>
    some ((0 : Int32), t2)
