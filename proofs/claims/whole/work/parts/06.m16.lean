-- L_law
def L_law_b891 (X : Scr)  (k18 : Int32 → Mem → Option (Int32 × Mem)) (x3 : Int32) (M : Mem) : Option (Int32 × Mem) :=
  k18 (x3 + (6 : Int32)) M
def L_law_b18 (X : Scr)  (k18 : Int32 → Mem → Option (Int32 × Mem)) (x3 : Int32) (M : Mem) : Option (Int32 × Mem) :=
  if ((Int32.ofNat X.1) - (6 : Int32)) < x3 then
    some ((1 : Int32), M)
  else
    gd (ib x3 X.1) (
      if ((X.2 x3.toNatClampNeg) &&& (31 : Int32)) = (0 : Int32) then
        gd (ib (x3 + (1 : Int32)) X.1) (
          gd (ib (x3 + (2 : Int32)) X.1) (
            gd (ib (x3 + (3 : Int32)) X.1) (
              (X11_basket 0 (X.2 (x3 + (1 : Int32)).toNatClampNeg) (X.2 (x3 + (2 : Int32)).toNatClampNeg) (X.2 (x3 + (3 : Int32)).toNatClampNeg) M).bind (fun p2 =>
                gd (ib (x3 + (1 : Int32)) X.1) (
                  gd (ib (x3 + (2 : Int32)) X.1) (
                    gd (ib (x3 + (3 : Int32)) X.1) (
                      (X12_basket 45 (X.2 (x3 + (1 : Int32)).toNatClampNeg) (X.2 (x3 + (2 : Int32)).toNatClampNeg) (X.2 (x3 + (3 : Int32)).toNatClampNeg) p2.2).bind (fun p3 =>
                        if p2.1 = p3.1 then
                          L_law_b891 X  k18 x3 p3.2
                        else
                          some ((0 : Int32), p3.2)))))))))
      else if ((X.2 x3.toNatClampNeg) &&& (31 : Int32)) = (1 : Int32) then
        (X11_right 0  M).bind (fun p4 =>
          (X12_right 45  p4.2).bind (fun p5 =>
            if p4.1 = p5.1 then
              L_law_b891 X  k18 x3 p5.2
            else
              some ((0 : Int32), p5.2)))
      else if ((X.2 x3.toNatClampNeg) &&& (31 : Int32)) = (2 : Int32) then
        gd (ib (x3 + (1 : Int32)) X.1) (
          gd (ib (x3 + (2 : Int32)) X.1) (
            (X11_clock 0 (X.2 (x3 + (1 : Int32)).toNatClampNeg) (X.2 (x3 + (2 : Int32)).toNatClampNeg) M).bind (fun p6 =>
              gd (ib (x3 + (1 : Int32)) X.1) (
                gd (ib (x3 + (2 : Int32)) X.1) (
                  (X12_clock 45 (X.2 (x3 + (1 : Int32)).toNatClampNeg) (X.2 (x3 + (2 : Int32)).toNatClampNeg) p6.2).bind (fun p7 =>
                    if p6.1 = p7.1 then
                      L_law_b891 X  k18 x3 p7.2
                    else
                      some ((0 : Int32), p7.2)))))))
      else if ((X.2 x3.toNatClampNeg) &&& (31 : Int32)) = (3 : Int32) then
        gd (ib (x3 + (1 : Int32)) X.1) (
          gd (ib (x3 + (2 : Int32)) X.1) (
            gd (ib (x3 + (3 : Int32)) X.1) (
              (X11_attendant 0 (X.2 (x3 + (1 : Int32)).toNatClampNeg) (X.2 (x3 + (2 : Int32)).toNatClampNeg) (X.2 (x3 + (3 : Int32)).toNatClampNeg) M).bind (fun p8 =>
                gd (ib (x3 + (1 : Int32)) X.1) (
                  gd (ib (x3 + (2 : Int32)) X.1) (
                    gd (ib (x3 + (3 : Int32)) X.1) (
                      (X12_attendant 45 (X.2 (x3 + (1 : Int32)).toNatClampNeg) (X.2 (x3 + (2 : Int32)).toNatClampNeg) (X.2 (x3 + (3 : Int32)).toNatClampNeg) p8.2).bind (fun p9 =>
                        if p8.1 = p9.1 then
                          L_law_b891 X  k18 x3 p9.2
                        else
                          some ((0 : Int32), p9.2)))))))))
      else if ((X.2 x3.toNatClampNeg) &&& (31 : Int32)) = (4 : Int32) then
        gd (ib (x3 + (1 : Int32)) X.1) (
          (X11_say 0 (X.2 (x3 + (1 : Int32)).toNatClampNeg) M).bind (fun p10 =>
            gd (ib (x3 + (1 : Int32)) X.1) (
              (X12_say 45 (X.2 (x3 + (1 : Int32)).toNatClampNeg) p10.2).bind (fun p11 =>
                if p10.1 = p11.1 then
                  L_law_b891 X  k18 x3 p11.2
                else
                  some ((0 : Int32), p11.2)))))
      else if ((X.2 x3.toNatClampNeg) &&& (31 : Int32)) = (5 : Int32) then
        (X11_wipe 0  M).bind (fun p12 =>
          (X12_wipe 45  p12.2).bind (fun p13 =>
            if p12.1 = p13.1 then
              L_law_b891 X  k18 x3 p13.2
            else
              some ((0 : Int32), p13.2)))
      else if ((X.2 x3.toNatClampNeg) &&& (31 : Int32)) = (6 : Int32) then
        (X11_fault 0  M).bind (fun p14 =>
          (X12_fault 45  p14.2).bind (fun p15 =>
            if p14.1 = p15.1 then
              L_law_b891 X  k18 x3 p15.2
            else
              some ((0 : Int32), p15.2)))
      else if ((X.2 x3.toNatClampNeg) &&& (31 : Int32)) = (7 : Int32) then
        gd (ib (x3 + (1 : Int32)) X.1) (
          (X11_judge 0 (X.2 (x3 + (1 : Int32)).toNatClampNeg) M).bind (fun p16 =>
            gd (ib (x3 + (1 : Int32)) X.1) (
              (X12_judge 45 (X.2 (x3 + (1 : Int32)).toNatClampNeg) p16.2).bind (fun p17 =>
                if p16.1 = p17.1 then
                  L_law_b891 X  k18 x3 p17.2
                else
                  some ((0 : Int32), p17.2)))))
      else if ((X.2 x3.toNatClampNeg) &&& (31 : Int32)) = (8 : Int32) then
        gd (ib (x3 + (1 : Int32)) X.1) (
          gd (ib (x3 + (2 : Int32)) X.1) (
            (X11_behind 0 (X.2 (x3 + (1 : Int32)).toNatClampNeg) (X.2 (x3 + (2 : Int32)).toNatClampNeg) M).bind (fun p18 =>
              gd (ib (x3 + (1 : Int32)) X.1) (
                gd (ib (x3 + (2 : Int32)) X.1) (
                  (X12_behind 45 (X.2 (x3 + (1 : Int32)).toNatClampNeg) (X.2 (x3 + (2 : Int32)).toNatClampNeg) p18.2).bind (fun p19 =>
                    if p18.1 = p19.1 then
                      L_law_b891 X  k18 x3 p19.2
                    else
                      some ((0 : Int32), p19.2)))))))
      else if ((X.2 x3.toNatClampNeg) &&& (31 : Int32)) = (9 : Int32) then
        gd (ib (x3 + (1 : Int32)) X.1) (
          (X11_his 0 (X.2 (x3 + (1 : Int32)).toNatClampNeg) M).bind (fun p20 =>
            gd (ib (x3 + (1 : Int32)) X.1) (
              (X12_his 45 (X.2 (x3 + (1 : Int32)).toNatClampNeg) p20.2).bind (fun p21 =>
                if p20.1 = p21.1 then
                  L_law_b891 X  k18 x3 p21.2
                else
                  some ((0 : Int32), p21.2)))))
      else if ((X.2 x3.toNatClampNeg) &&& (31 : Int32)) = (10 : Int32) then
        gd (ib (x3 + (1 : Int32)) X.1) (
          (X11_wrong 0 (X.2 (x3 + (1 : Int32)).toNatClampNeg) M).bind (fun p22 =>
            gd (ib (x3 + (1 : Int32)) X.1) (
              (X12_wrong 45 (X.2 (x3 + (1 : Int32)).toNatClampNeg) p22.2).bind (fun p23 =>
                if p22.1 = p23.1 then
                  L_law_b891 X  k18 x3 p23.2
                else
                  some ((0 : Int32), p23.2)))))
      else if ((X.2 x3.toNatClampNeg) &&& (31 : Int32)) = (11 : Int32) then
        (X11_done 0  M).bind (fun p24 =>
          (X12_done 45  p24.2).bind (fun p25 =>
            if p24.1 = p25.1 then
              L_law_b891 X  k18 x3 p25.2
            else
              some ((0 : Int32), p25.2)))
      else if ((X.2 x3.toNatClampNeg) &&& (31 : Int32)) = (12 : Int32) then
        gd (ib (x3 + (1 : Int32)) X.1) (
          gd (ib (x3 + (2 : Int32)) X.1) (
            (X11_round 0 (X.2 (x3 + (1 : Int32)).toNatClampNeg) (X.2 (x3 + (2 : Int32)).toNatClampNeg) M).bind (fun p26 =>
              gd (ib (x3 + (1 : Int32)) X.1) (
                gd (ib (x3 + (2 : Int32)) X.1) (
                  (X12_round 45 (X.2 (x3 + (1 : Int32)).toNatClampNeg) (X.2 (x3 + (2 : Int32)).toNatClampNeg) p26.2).bind (fun p27 =>
                    if p26.1 = p27.1 then
                      L_law_b891 X  k18 x3 p27.2
                    else
                      some ((0 : Int32), p27.2)))))))
      else if ((X.2 x3.toNatClampNeg) &&& (31 : Int32)) = (13 : Int32) then
        gd (ib (x3 + (1 : Int32)) X.1) (
          gd (ib (x3 + (2 : Int32)) X.1) (
            (X11_show 0 (X.2 (x3 + (1 : Int32)).toNatClampNeg) (X.2 (x3 + (2 : Int32)).toNatClampNeg) M).bind (fun p28 =>
              gd (ib (x3 + (1 : Int32)) X.1) (
                gd (ib (x3 + (2 : Int32)) X.1) (
                  (X12_show 45 (X.2 (x3 + (1 : Int32)).toNatClampNeg) (X.2 (x3 + (2 : Int32)).toNatClampNeg) p28.2).bind (fun p29 =>
                    if p28.1 = p29.1 then
                      L_law_b891 X  k18 x3 p29.2
                    else
                      some ((0 : Int32), p29.2)))))))
      else if ((X.2 x3.toNatClampNeg) &&& (31 : Int32)) = (14 : Int32) then
        gd (ib (x3 + (1 : Int32)) X.1) (
          gd (ib (x3 + (2 : Int32)) X.1) (
            (X11_owners 0 (X.2 (x3 + (1 : Int32)).toNatClampNeg) (X.2 (x3 + (2 : Int32)).toNatClampNeg) M).bind (fun p30 =>
              gd (ib (x3 + (1 : Int32)) X.1) (
                gd (ib (x3 + (2 : Int32)) X.1) (
                  (X12_owners 45 (X.2 (x3 + (1 : Int32)).toNatClampNeg) (X.2 (x3 + (2 : Int32)).toNatClampNeg) p30.2).bind (fun p31 =>
                    if p30.1 = p31.1 then
                      L_law_b891 X  k18 x3 p31.2
                    else
                      some ((0 : Int32), p31.2)))))))
      else if ((X.2 x3.toNatClampNeg) &&& (31 : Int32)) = (15 : Int32) then
        gd (ib (x3 + (1 : Int32)) X.1) (
          gd (ib (x3 + (2 : Int32)) X.1) (
            (X11_towels 0 (X.2 (x3 + (1 : Int32)).toNatClampNeg) (X.2 (x3 + (2 : Int32)).toNatClampNeg) M).bind (fun p32 =>
              gd (ib (x3 + (1 : Int32)) X.1) (
                gd (ib (x3 + (2 : Int32)) X.1) (
                  (X12_towels 45 (X.2 (x3 + (1 : Int32)).toNatClampNeg) (X.2 (x3 + (2 : Int32)).toNatClampNeg) p32.2).bind (fun p33 =>
                    if p32.1 = p33.1 then
                      L_law_b891 X  k18 x3 p33.2
                    else
                      some ((0 : Int32), p33.2)))))))
      else if ((X.2 x3.toNatClampNeg) &&& (31 : Int32)) = (16 : Int32) then
        gd (ib (x3 + (1 : Int32)) X.1) (
          gd (ib (x3 + (2 : Int32)) X.1) (
            (X11_found 0 (X.2 (x3 + (1 : Int32)).toNatClampNeg) (X.2 (x3 + (2 : Int32)).toNatClampNeg) M).bind (fun p34 =>
              gd (ib (x3 + (1 : Int32)) X.1) (
                gd (ib (x3 + (2 : Int32)) X.1) (
                  (X12_found 45 (X.2 (x3 + (1 : Int32)).toNatClampNeg) (X.2 (x3 + (2 : Int32)).toNatClampNeg) p34.2).bind (fun p35 =>
                    if p34.1 = p35.1 then
                      L_law_b891 X  k18 x3 p35.2
                    else
                      some ((0 : Int32), p35.2)))))))
      else if ((X.2 x3.toNatClampNeg) &&& (31 : Int32)) = (17 : Int32) then
        (X11_forget 0  M).bind (fun p36 =>
          (X12_forget 45  p36.2).bind (fun p37 =>
            if p36.1 = p37.1 then
              L_law_b891 X  k18 x3 p37.2
            else
              some ((0 : Int32), p37.2)))
      else if ((X.2 x3.toNatClampNeg) &&& (31 : Int32)) = (18 : Int32) then
        gd (ib (x3 + (1 : Int32)) X.1) (
          (X11_fits 0 (X.2 (x3 + (1 : Int32)).toNatClampNeg) M).bind (fun p38 =>
            gd (ib (x3 + (1 : Int32)) X.1) (
              (X12_fits 45 (X.2 (x3 + (1 : Int32)).toNatClampNeg) p38.2).bind (fun p39 =>
                if p38.1 = p39.1 then
                  L_law_b891 X  k18 x3 p39.2
                else
                  some ((0 : Int32), p39.2)))))
      else if ((X.2 x3.toNatClampNeg) &&& (31 : Int32)) = (19 : Int32) then
        gd (ib (x3 + (1 : Int32)) X.1) (
          (X11_ask 0 (X.2 (x3 + (1 : Int32)).toNatClampNeg) M).bind (fun p40 =>
            gd (ib (x3 + (1 : Int32)) X.1) (
              (X12_ask 45 (X.2 (x3 + (1 : Int32)).toNatClampNeg) p40.2).bind (fun p41 =>
                if p40.1 = p41.1 then
                  L_law_b891 X  k18 x3 p41.2
                else
                  some ((0 : Int32), p41.2)))))
      else if ((X.2 x3.toNatClampNeg) &&& (31 : Int32)) = (20 : Int32) then
        gd (ib (x3 + (1 : Int32)) X.1) (
          gd (ib (x3 + (2 : Int32)) X.1) (
            gd (ib (x3 + (3 : Int32)) X.1) (
              (X11_piles 0 (X.2 (x3 + (1 : Int32)).toNatClampNeg) (X.2 (x3 + (2 : Int32)).toNatClampNeg) (X.2 (x3 + (3 : Int32)).toNatClampNeg) M).bind (fun p42 =>
                gd (ib (x3 + (1 : Int32)) X.1) (
                  gd (ib (x3 + (2 : Int32)) X.1) (
                    gd (ib (x3 + (3 : Int32)) X.1) (
                      (X12_piles 45 (X.2 (x3 + (1 : Int32)).toNatClampNeg) (X.2 (x3 + (2 : Int32)).toNatClampNeg) (X.2 (x3 + (3 : Int32)).toNatClampNeg) p42.2).bind (fun p43 =>
                        if p42.1 = p43.1 then
                          L_law_b891 X  k18 x3 p43.2
                        else
                          some ((0 : Int32), p43.2)))))))))
      else if ((X.2 x3.toNatClampNeg) &&& (31 : Int32)) = (21 : Int32) then
        gd (ib (x3 + (1 : Int32)) X.1) (
          gd (ib (x3 + (2 : Int32)) X.1) (
            gd (ib (x3 + (3 : Int32)) X.1) (
              gd (ib (x3 + (4 : Int32)) X.1) (
                gd (ib (x3 + (5 : Int32)) X.1) (
                  (X11_lengths 0 (X.2 (x3 + (1 : Int32)).toNatClampNeg) (X.2 (x3 + (2 : Int32)).toNatClampNeg) (X.2 (x3 + (3 : Int32)).toNatClampNeg) (X.2 (x3 + (4 : Int32)).toNatClampNeg) (X.2 (x3 + (5 : Int32)).toNatClampNeg) M).bind (fun p44 =>
                    gd (ib (x3 + (1 : Int32)) X.1) (
                      gd (ib (x3 + (2 : Int32)) X.1) (
                        gd (ib (x3 + (3 : Int32)) X.1) (
                          gd (ib (x3 + (4 : Int32)) X.1) (
                            gd (ib (x3 + (5 : Int32)) X.1) (
                              (X12_lengths 45 (X.2 (x3 + (1 : Int32)).toNatClampNeg) (X.2 (x3 + (2 : Int32)).toNatClampNeg) (X.2 (x3 + (3 : Int32)).toNatClampNeg) (X.2 (x3 + (4 : Int32)).toNatClampNeg) (X.2 (x3 + (5 : Int32)).toNatClampNeg) p44.2).bind (fun p45 =>
                                if (lg_cmp p44.1 p45.1) = 0 then
                                  L_law_b891 X  k18 x3 p45.2
                                else
                                  some ((0 : Int32), p45.2)))))))))))))
      else if ((X.2 x3.toNatClampNeg) &&& (31 : Int32)) = (22 : Int32) then
        gd (ib (x3 + (1 : Int32)) X.1) (
          gd (ib (x3 + (2 : Int32)) X.1) (
            gd (ib (x3 + (3 : Int32)) X.1) (
              (X11_year 0 (X.2 (x3 + (1 : Int32)).toNatClampNeg) (X.2 (x3 + (2 : Int32)).toNatClampNeg) (X.2 (x3 + (3 : Int32)).toNatClampNeg) M).bind (fun p46 =>
                gd (ib (x3 + (1 : Int32)) X.1) (
                  gd (ib (x3 + (2 : Int32)) X.1) (
                    gd (ib (x3 + (3 : Int32)) X.1) (
                      (X12_year 45 (X.2 (x3 + (1 : Int32)).toNatClampNeg) (X.2 (x3 + (2 : Int32)).toNatClampNeg) (X.2 (x3 + (3 : Int32)).toNatClampNeg) p46.2).bind (fun p47 =>
                        if p46.1 = p47.1 then
                          L_law_b891 X  k18 x3 p47.2
                        else
                          some ((0 : Int32), p47.2)))))))))
      else if ((X.2 x3.toNatClampNeg) &&& (31 : Int32)) = (23 : Int32) then
        gd (ib (x3 + (1 : Int32)) X.1) (
          (X11_image 0 (X.2 (x3 + (1 : Int32)).toNatClampNeg) M).bind (fun p48 =>
            gd (ib (x3 + (1 : Int32)) X.1) (
              (X12_image 45 (X.2 (x3 + (1 : Int32)).toNatClampNeg) p48.2).bind (fun p49 =>
                if p48.1 = p49.1 then
                  L_law_b891 X  k18 x3 p49.2
                else
                  some ((0 : Int32), p49.2)))))
      else if ((X.2 x3.toNatClampNeg) &&& (31 : Int32)) = (24 : Int32) then
        gd (ib (x3 + (1 : Int32)) X.1) (
          (X11_restore 0 (X.2 (x3 + (1 : Int32)).toNatClampNeg) M).bind (fun p50 =>
            gd (ib (x3 + (1 : Int32)) X.1) (
              (X12_restore 45 (X.2 (x3 + (1 : Int32)).toNatClampNeg) p50.2).bind (fun p51 =>
                if p50.1 = p51.1 then
                  L_law_b891 X  k18 x3 p51.2
                else
                  some ((0 : Int32), p51.2)))))
      else if ((X.2 x3.toNatClampNeg) &&& (31 : Int32)) = (25 : Int32) then
        gd (ib (x3 + (1 : Int32)) X.1) (
          (X11_told 0 (X.2 (x3 + (1 : Int32)).toNatClampNeg) M).bind (fun p52 =>
            gd (ib (x3 + (1 : Int32)) X.1) (
              (X12_told 45 (X.2 (x3 + (1 : Int32)).toNatClampNeg) p52.2).bind (fun p53 =>
                if p52.1 = p53.1 then
                  L_law_b891 X  k18 x3 p53.2
                else
                  some ((0 : Int32), p53.2)))))
      else 
        L_law_b891 X  k18 x3 M)
def L_law_l18 (X : Scr)   : Nat → Int32 → Mem → Option (Int32 × Mem)
  | 0 => fun _ _ => none
  | n + 1 => L_law_b18 X  (L_law_l18 X   n)
def L_law (X : Scr)    (M : Mem) : Option (Int32 × Mem) :=
  L_law_l18 X   FU (0 : Int32) M
set_option maxHeartbeats 4000000 in
set_option maxRecDepth 100000 in
theorem t_L_law_b891 {X : Scr}   {k18 : Int32 → Mem → Option (Int32 × Mem)} (hk18 : ∀ (x3 : Int32) (M : Mem), T X eI (k18 x3 M) md_L_law 18 [(0, .ref 1000), (1, .ref 0), (2, .ref 45), (3, .int x3)] [] M) (x3 : Int32) (M : Mem) : T X eI (L_law_b891 X  k18 x3 M) md_L_law 891 [(0, .ref 1000), (1, .ref 0), (2, .ref 45), (3, .int x3)] [] M := by
  unfold L_law_b891
  refine T_iinc 3 [(3, .int (x3 + (6 : Int32))), (0, .ref 1000), (1, .ref 0), (2, .ref 45)] (v := (6 : Int32)) dL_law_891 rfl (by decide) (by decide) rfl ?_
  refine T_goto 18 dL_law_894 (by decide) ?_
  refine T_sub [1, 2, 3, 0] (lv' := [(0, .ref 1000), (1, .ref 0), (2, .ref 45), (3, .int (x3 + (6 : Int32)))]) rfl ?_
  exact hk18 _ _
set_option maxHeartbeats 4000000 in
set_option maxRecDepth 100000 in
theorem t_L_law_b18 {X : Scr}   {k18 : Int32 → Mem → Option (Int32 × Mem)} (hk18 : ∀ (x3 : Int32) (M : Mem), T X eI (k18 x3 M) md_L_law 18 [(0, .ref 1000), (1, .ref 0), (2, .ref 45), (3, .int x3)] [] M) (x3 : Int32) (M : Mem) : T X eI (L_law_b18 X  k18 x3 M) md_L_law 18 [(0, .ref 1000), (1, .ref 0), (2, .ref 45), (3, .int x3)] [] M := by
  unfold L_law_b18
  refine T_iload_n 3 dL_law_18 rfl rfl ?_
  refine T_aload_n 0 dL_law_19 rfl rfl ?_
  refine T_slen dL_law_20 ?_
  refine T_bipush (v := (6 : Int32)) (by decide) dL_law_21 ?_
  refine T_isub dL_law_23 ?_
  refine T_icmp_gt 897 dL_law_24 (by decide) ?_ ?_
  ·
    refine T_iconst (v := (1 : Int32)) (by decide) dL_law_897 ?_
    exact T_zret1 dL_law_898 rfl
  ·
    refine T_aload_n 0 dL_law_27 rfl rfl ?_
    refine T_iload_n 3 dL_law_28 rfl rfl ?_
    refine T_sld dL_law_29 ?_
    refine T_bipush (v := (31 : Int32)) (by decide) dL_law_30 ?_
    refine T_iand dL_law_32 ?_
    refine T_ite (fun hx0_0 => ?_) (fun hx0_0 => ?_)
    ·
      refine T_tabIn (off := 119) 152 dL_law_33 (by rw [hx0_0]; decide) (by rw [hx0_0]; decide) (by rw [hx0_0]; decide) (by decide) ?_
      refine T_aload_n 1 dL_law_152 rfl rfl ?_
      refine T_aload_n 0 dL_law_153 rfl rfl ?_
      refine T_iload_n 3 dL_law_154 rfl rfl ?_
      refine T_iconst (v := (1 : Int32)) (by decide) dL_law_155 ?_
      refine T_iadd dL_law_156 ?_
      refine T_sld dL_law_157 ?_
      refine T_aload_n 0 dL_law_158 rfl rfl ?_
      refine T_iload_n 3 dL_law_159 rfl rfl ?_
      refine T_iconst (v := (2 : Int32)) (by decide) dL_law_160 ?_
      refine T_iadd dL_law_161 ?_
      refine T_sld dL_law_162 ?_
      refine T_aload_n 0 dL_law_163 rfl rfl ?_
      refine T_iload_n 3 dL_law_164 rfl rfl ?_
      refine T_iconst (v := (3 : Int32)) (by decide) dL_law_165 ?_
      refine T_iadd dL_law_166 ?_
      refine T_sld dL_law_167 ?_
      refine T_callVI md_X11_basket [.int (X.2 (x3 + (1 : Int32)).toNatClampNeg), .int (X.2 (x3 + (2 : Int32)).toNatClampNeg), .int (X.2 (x3 + (3 : Int32)).toNatClampNeg)] [] dL_law_168 kd_0 rfl rfl ok_X11_basket tb_354 tb_355 tb_356 (by decide) (Nat.le_of_ble_eq_true rfl) (fun _ _ h9 => C_X11_basket kd_0 _ _ _ h9) (fun r2 M2 => ?_)
      dsimp only
      refine T_aload_n 2 dL_law_171 rfl rfl ?_
      refine T_aload_n 0 dL_law_172 rfl rfl ?_
      refine T_iload_n 3 dL_law_173 rfl rfl ?_
      refine T_iconst (v := (1 : Int32)) (by decide) dL_law_174 ?_
      refine T_iadd dL_law_175 ?_
      refine T_sld dL_law_176 ?_
      refine T_aload_n 0 dL_law_177 rfl rfl ?_
      refine T_iload_n 3 dL_law_178 rfl rfl ?_
      refine T_iconst (v := (2 : Int32)) (by decide) dL_law_179 ?_
      refine T_iadd dL_law_180 ?_
      refine T_sld dL_law_181 ?_
      refine T_aload_n 0 dL_law_182 rfl rfl ?_
      refine T_iload_n 3 dL_law_183 rfl rfl ?_
      refine T_iconst (v := (3 : Int32)) (by decide) dL_law_184 ?_
      refine T_iadd dL_law_185 ?_
      refine T_sld dL_law_186 ?_
      refine T_callVI md_X12_basket [.int (X.2 (x3 + (1 : Int32)).toNatClampNeg), .int (X.2 (x3 + (2 : Int32)).toNatClampNeg), .int (X.2 (x3 + (3 : Int32)).toNatClampNeg)] [.int r2] dL_law_187 kd_45 rfl rfl ok_X12_basket tb_808 tb_809 tb_810 (by decide) (Nat.le_of_ble_eq_true rfl) (fun _ _ h9 => C_X12_basket kd_45 _ _ _ h9) (fun r3 M3 => ?_)
      dsimp only
      refine T_icmp_eq 891 dL_law_190 (by decide) ?_ ?_
      ·
        exact t_L_law_b891  hk18 _ _
      ·
        refine T_iconst (v := (0 : Int32)) (by decide) dL_law_193 ?_
        exact T_zret0 dL_law_194 rfl
    refine T_ite (fun hx0_1 => ?_) (fun hx0_1 => ?_)
    ·
      refine T_tabIn (off := 162) 195 dL_law_33 (by rw [hx0_1]; decide) (by rw [hx0_1]; decide) (by rw [hx0_1]; decide) (by decide) ?_
      refine T_aload_n 1 dL_law_195 rfl rfl ?_
      refine T_callVI md_X11_right [] [] dL_law_196 kd_0 rfl rfl ok_X11_right tb_367 tb_368 tb_369 (by decide) (Nat.le_of_ble_eq_true rfl) (fun _ _ h9 => C_X11_right kd_0  h9) (fun r4 M4 => ?_)
      dsimp only
      refine T_aload_n 2 dL_law_199 rfl rfl ?_
      refine T_callVI md_X12_right [] [.int r4] dL_law_200 kd_45 rfl rfl ok_X12_right tb_820 tb_821 tb_822 (by decide) (Nat.le_of_ble_eq_true rfl) (fun _ _ h9 => C_X12_right kd_45  h9) (fun r5 M5 => ?_)
      dsimp only
      refine T_icmp_eq 891 dL_law_203 (by decide) ?_ ?_
      ·
        exact t_L_law_b891  hk18 _ _
      ·
        refine T_iconst (v := (0 : Int32)) (by decide) dL_law_206 ?_
        exact T_zret0 dL_law_207 rfl
    refine T_ite (fun hx0_2 => ?_) (fun hx0_2 => ?_)
    ·
      refine T_tabIn (off := 175) 208 dL_law_33 (by rw [hx0_2]; decide) (by rw [hx0_2]; decide) (by rw [hx0_2]; decide) (by decide) ?_
      refine T_aload_n 1 dL_law_208 rfl rfl ?_
      refine T_aload_n 0 dL_law_209 rfl rfl ?_
      refine T_iload_n 3 dL_law_210 rfl rfl ?_
      refine T_iconst (v := (1 : Int32)) (by decide) dL_law_211 ?_
      refine T_iadd dL_law_212 ?_
      refine T_sld dL_law_213 ?_
      refine T_aload_n 0 dL_law_214 rfl rfl ?_
      refine T_iload_n 3 dL_law_215 rfl rfl ?_
      refine T_iconst (v := (2 : Int32)) (by decide) dL_law_216 ?_
      refine T_iadd dL_law_217 ?_
      refine T_sld dL_law_218 ?_
      refine T_callVI md_X11_clock [.int (X.2 (x3 + (1 : Int32)).toNatClampNeg), .int (X.2 (x3 + (2 : Int32)).toNatClampNeg)] [] dL_law_219 kd_0 rfl rfl ok_X11_clock tb_379 tb_380 tb_381 (by decide) (Nat.le_of_ble_eq_true rfl) (fun _ _ h9 => C_X11_clock kd_0 _ _ h9) (fun r6 M6 => ?_)
      dsimp only
      refine T_aload_n 2 dL_law_222 rfl rfl ?_
      refine T_aload_n 0 dL_law_223 rfl rfl ?_
      refine T_iload_n 3 dL_law_224 rfl rfl ?_
      refine T_iconst (v := (1 : Int32)) (by decide) dL_law_225 ?_
      refine T_iadd dL_law_226 ?_
      refine T_sld dL_law_227 ?_
      refine T_aload_n 0 dL_law_228 rfl rfl ?_
      refine T_iload_n 3 dL_law_229 rfl rfl ?_
      refine T_iconst (v := (2 : Int32)) (by decide) dL_law_230 ?_
      refine T_iadd dL_law_231 ?_
      refine T_sld dL_law_232 ?_
      refine T_callVI md_X12_clock [.int (X.2 (x3 + (1 : Int32)).toNatClampNeg), .int (X.2 (x3 + (2 : Int32)).toNatClampNeg)] [.int r6] dL_law_233 kd_45 rfl rfl ok_X12_clock tb_828 tb_829 tb_830 (by decide) (Nat.le_of_ble_eq_true rfl) (fun _ _ h9 => C_X12_clock kd_45 _ _ h9) (fun r7 M7 => ?_)
      dsimp only
      refine T_icmp_eq 891 dL_law_236 (by decide) ?_ ?_
      ·
        exact t_L_law_b891  hk18 _ _
      ·
        refine T_iconst (v := (0 : Int32)) (by decide) dL_law_239 ?_
        exact T_zret0 dL_law_240 rfl
    refine T_ite (fun hx0_3 => ?_) (fun hx0_3 => ?_)
    ·
      refine T_tabIn (off := 208) 241 dL_law_33 (by rw [hx0_3]; decide) (by rw [hx0_3]; decide) (by rw [hx0_3]; decide) (by decide) ?_
      refine T_aload_n 1 dL_law_241 rfl rfl ?_
      refine T_aload_n 0 dL_law_242 rfl rfl ?_
      refine T_iload_n 3 dL_law_243 rfl rfl ?_
      refine T_iconst (v := (1 : Int32)) (by decide) dL_law_244 ?_
      refine T_iadd dL_law_245 ?_
      refine T_sld dL_law_246 ?_
      refine T_aload_n 0 dL_law_247 rfl rfl ?_
      refine T_iload_n 3 dL_law_248 rfl rfl ?_
      refine T_iconst (v := (2 : Int32)) (by decide) dL_law_249 ?_
      refine T_iadd dL_law_250 ?_
      refine T_sld dL_law_251 ?_
      refine T_aload_n 0 dL_law_252 rfl rfl ?_
      refine T_iload_n 3 dL_law_253 rfl rfl ?_
      refine T_iconst (v := (3 : Int32)) (by decide) dL_law_254 ?_
      refine T_iadd dL_law_255 ?_
      refine T_sld dL_law_256 ?_
      refine T_callVI md_X11_attendant [.int (X.2 (x3 + (1 : Int32)).toNatClampNeg), .int (X.2 (x3 + (2 : Int32)).toNatClampNeg), .int (X.2 (x3 + (3 : Int32)).toNatClampNeg)] [] dL_law_257 kd_0 rfl rfl ok_X11_attendant tb_383 tb_384 tb_385 (by decide) (Nat.le_of_ble_eq_true rfl) (fun _ _ h9 => C_X11_attendant kd_0 _ _ _ h9) (fun r8 M8 => ?_)
      dsimp only
      refine T_aload_n 2 dL_law_260 rfl rfl ?_
      refine T_aload_n 0 dL_law_261 rfl rfl ?_
      refine T_iload_n 3 dL_law_262 rfl rfl ?_
      refine T_iconst (v := (1 : Int32)) (by decide) dL_law_263 ?_
      refine T_iadd dL_law_264 ?_
      refine T_sld dL_law_265 ?_
      refine T_aload_n 0 dL_law_266 rfl rfl ?_
      refine T_iload_n 3 dL_law_267 rfl rfl ?_
      refine T_iconst (v := (2 : Int32)) (by decide) dL_law_268 ?_
      refine T_iadd dL_law_269 ?_
      refine T_sld dL_law_270 ?_
      refine T_aload_n 0 dL_law_271 rfl rfl ?_
      refine T_iload_n 3 dL_law_272 rfl rfl ?_
      refine T_iconst (v := (3 : Int32)) (by decide) dL_law_273 ?_
      refine T_iadd dL_law_274 ?_
      refine T_sld dL_law_275 ?_
      refine T_callVI md_X12_attendant [.int (X.2 (x3 + (1 : Int32)).toNatClampNeg), .int (X.2 (x3 + (2 : Int32)).toNatClampNeg), .int (X.2 (x3 + (3 : Int32)).toNatClampNeg)] [.int r8] dL_law_276 kd_45 rfl rfl ok_X12_attendant tb_833 tb_834 tb_835 (by decide) (Nat.le_of_ble_eq_true rfl) (fun _ _ h9 => C_X12_attendant kd_45 _ _ _ h9) (fun r9 M9 => ?_)
      dsimp only
      refine T_icmp_eq 891 dL_law_279 (by decide) ?_ ?_
      ·
        exact t_L_law_b891  hk18 _ _
      ·
        refine T_iconst (v := (0 : Int32)) (by decide) dL_law_282 ?_
        exact T_zret0 dL_law_283 rfl
    refine T_ite (fun hx0_4 => ?_) (fun hx0_4 => ?_)
    ·
      refine T_tabIn (off := 251) 284 dL_law_33 (by rw [hx0_4]; decide) (by rw [hx0_4]; decide) (by rw [hx0_4]; decide) (by decide) ?_
      refine T_aload_n 1 dL_law_284 rfl rfl ?_
      refine T_aload_n 0 dL_law_285 rfl rfl ?_
      refine T_iload_n 3 dL_law_286 rfl rfl ?_
      refine T_iconst (v := (1 : Int32)) (by decide) dL_law_287 ?_
      refine T_iadd dL_law_288 ?_
      refine T_sld dL_law_289 ?_
      refine T_callVI md_X11_say [.int (X.2 (x3 + (1 : Int32)).toNatClampNeg)] [] dL_law_290 kd_0 rfl rfl ok_X11_say tb_387 tb_388 tb_389 (by decide) (Nat.le_of_ble_eq_true rfl) (fun _ _ h9 => C_X11_say kd_0 _ h9) (fun r10 M10 => ?_)
      dsimp only
      refine T_aload_n 2 dL_law_293 rfl rfl ?_
      refine T_aload_n 0 dL_law_294 rfl rfl ?_
      refine T_iload_n 3 dL_law_295 rfl rfl ?_
      refine T_iconst (v := (1 : Int32)) (by decide) dL_law_296 ?_
      refine T_iadd dL_law_297 ?_
      refine T_sld dL_law_298 ?_
      refine T_callVI md_X12_say [.int (X.2 (x3 + (1 : Int32)).toNatClampNeg)] [.int r10] dL_law_299 kd_45 rfl rfl ok_X12_say tb_837 tb_838 tb_839 (by decide) (Nat.le_of_ble_eq_true rfl) (fun _ _ h9 => C_X12_say kd_45 _ h9) (fun r11 M11 => ?_)
      dsimp only
      refine T_icmp_eq 891 dL_law_302 (by decide) ?_ ?_
      ·
        exact t_L_law_b891  hk18 _ _
      ·
        refine T_iconst (v := (0 : Int32)) (by decide) dL_law_305 ?_
        exact T_zret0 dL_law_306 rfl
    refine T_ite (fun hx0_5 => ?_) (fun hx0_5 => ?_)
    ·
      refine T_tabIn (off := 274) 307 dL_law_33 (by rw [hx0_5]; decide) (by rw [hx0_5]; decide) (by rw [hx0_5]; decide) (by decide) ?_
      refine T_aload_n 1 dL_law_307 rfl rfl ?_
      refine T_callVI md_X11_wipe [] [] dL_law_308 kd_0 rfl rfl ok_X11_wipe tb_395 tb_396 tb_397 (by decide) (Nat.le_of_ble_eq_true rfl) (fun _ _ h9 => C_X11_wipe kd_0  h9) (fun r12 M12 => ?_)
      dsimp only
      refine T_aload_n 2 dL_law_311 rfl rfl ?_
      refine T_callVI md_X12_wipe [] [.int r12] dL_law_312 kd_45 rfl rfl ok_X12_wipe tb_843 tb_844 tb_845 (by decide) (Nat.le_of_ble_eq_true rfl) (fun _ _ h9 => C_X12_wipe kd_45  h9) (fun r13 M13 => ?_)
      dsimp only
      refine T_icmp_eq 891 dL_law_315 (by decide) ?_ ?_
      ·
        exact t_L_law_b891  hk18 _ _
      ·
        refine T_iconst (v := (0 : Int32)) (by decide) dL_law_318 ?_
        exact T_zret0 dL_law_319 rfl
    refine T_ite (fun hx0_6 => ?_) (fun hx0_6 => ?_)
    ·
      refine T_tabIn (off := 287) 320 dL_law_33 (by rw [hx0_6]; decide) (by rw [hx0_6]; decide) (by rw [hx0_6]; decide) (by decide) ?_
      refine T_aload_n 1 dL_law_320 rfl rfl ?_
      refine T_callVI md_X11_fault [] [] dL_law_321 kd_0 rfl rfl ok_X11_fault tb_399 tb_400 tb_401 (by decide) (Nat.le_of_ble_eq_true rfl) (fun _ _ h9 => C_X11_fault kd_0  h9) (fun r14 M14 => ?_)
      dsimp only
      refine T_aload_n 2 dL_law_324 rfl rfl ?_
      refine T_callVI md_X12_fault [] [.int r14] dL_law_325 kd_45 rfl rfl ok_X12_fault tb_847 tb_848 tb_849 (by decide) (Nat.le_of_ble_eq_true rfl) (fun _ _ h9 => C_X12_fault kd_45  h9) (fun r15 M15 => ?_)
      dsimp only
      refine T_icmp_eq 891 dL_law_328 (by decide) ?_ ?_
      ·
        exact t_L_law_b891  hk18 _ _
      ·
        refine T_iconst (v := (0 : Int32)) (by decide) dL_law_331 ?_
        exact T_zret0 dL_law_332 rfl
    refine T_ite (fun hx0_7 => ?_) (fun hx0_7 => ?_)
    ·
      refine T_tabIn (off := 300) 333 dL_law_33 (by rw [hx0_7]; decide) (by rw [hx0_7]; decide) (by rw [hx0_7]; decide) (by decide) ?_
      refine T_aload_n 1 dL_law_333 rfl rfl ?_
      refine T_aload_n 0 dL_law_334 rfl rfl ?_
      refine T_iload_n 3 dL_law_335 rfl rfl ?_
      refine T_iconst (v := (1 : Int32)) (by decide) dL_law_336 ?_
      refine T_iadd dL_law_337 ?_
      refine T_sld dL_law_338 ?_
      refine T_callVI md_X11_judge [.int (X.2 (x3 + (1 : Int32)).toNatClampNeg)] [] dL_law_339 kd_0 rfl rfl ok_X11_judge tb_423 tb_424 tb_425 (by decide) (Nat.le_of_ble_eq_true rfl) (fun _ _ h9 => C_X11_judge kd_0 _ h9) (fun r16 M16 => ?_)
      dsimp only
      refine T_aload_n 2 dL_law_342 rfl rfl ?_
      refine T_aload_n 0 dL_law_343 rfl rfl ?_
      refine T_iload_n 3 dL_law_344 rfl rfl ?_
      refine T_iconst (v := (1 : Int32)) (by decide) dL_law_345 ?_
      refine T_iadd dL_law_346 ?_
      refine T_sld dL_law_347 ?_
      refine T_callVI md_X12_judge [.int (X.2 (x3 + (1 : Int32)).toNatClampNeg)] [.int r16] dL_law_348 kd_45 rfl rfl ok_X12_judge tb_870 tb_871 tb_872 (by decide) (Nat.le_of_ble_eq_true rfl) (fun _ _ h9 => C_X12_judge kd_45 _ h9) (fun r17 M17 => ?_)
      dsimp only
      refine T_icmp_eq 891 dL_law_351 (by decide) ?_ ?_
      ·
        exact t_L_law_b891  hk18 _ _
      ·
        refine T_iconst (v := (0 : Int32)) (by decide) dL_law_354 ?_
        exact T_zret0 dL_law_355 rfl
    refine T_ite (fun hx0_8 => ?_) (fun hx0_8 => ?_)
    ·
      refine T_tabIn (off := 323) 356 dL_law_33 (by rw [hx0_8]; decide) (by rw [hx0_8]; decide) (by rw [hx0_8]; decide) (by decide) ?_
      refine T_aload_n 1 dL_law_356 rfl rfl ?_
      refine T_aload_n 0 dL_law_357 rfl rfl ?_
      refine T_iload_n 3 dL_law_358 rfl rfl ?_
      refine T_iconst (v := (1 : Int32)) (by decide) dL_law_359 ?_
      refine T_iadd dL_law_360 ?_
      refine T_sld dL_law_361 ?_
      refine T_aload_n 0 dL_law_362 rfl rfl ?_
      refine T_iload_n 3 dL_law_363 rfl rfl ?_
      refine T_iconst (v := (2 : Int32)) (by decide) dL_law_364 ?_
      refine T_iadd dL_law_365 ?_
      refine T_sld dL_law_366 ?_
      refine T_callVI md_X11_behind [.int (X.2 (x3 + (1 : Int32)).toNatClampNeg), .int (X.2 (x3 + (2 : Int32)).toNatClampNeg)] [] dL_law_367 kd_0 rfl rfl ok_X11_behind tb_495 tb_496 tb_497 (by decide) (Nat.le_of_ble_eq_true rfl) (fun _ _ h9 => C_X11_behind kd_0 _ _ h9) (fun r18 M18 => ?_)
      dsimp only
      refine T_aload_n 2 dL_law_370 rfl rfl ?_
      refine T_aload_n 0 dL_law_371 rfl rfl ?_
      refine T_iload_n 3 dL_law_372 rfl rfl ?_
      refine T_iconst (v := (1 : Int32)) (by decide) dL_law_373 ?_
      refine T_iadd dL_law_374 ?_
      refine T_sld dL_law_375 ?_
      refine T_aload_n 0 dL_law_376 rfl rfl ?_
      refine T_iload_n 3 dL_law_377 rfl rfl ?_
      refine T_iconst (v := (2 : Int32)) (by decide) dL_law_378 ?_
      refine T_iadd dL_law_379 ?_
      refine T_sld dL_law_380 ?_
      refine T_callVI md_X12_behind [.int (X.2 (x3 + (1 : Int32)).toNatClampNeg), .int (X.2 (x3 + (2 : Int32)).toNatClampNeg)] [.int r18] dL_law_381 kd_45 rfl rfl ok_X12_behind tb_934 tb_935 tb_936 (by decide) (Nat.le_of_ble_eq_true rfl) (fun _ _ h9 => C_X12_behind kd_45 _ _ h9) (fun r19 M19 => ?_)
      dsimp only
      refine T_icmp_eq 891 dL_law_384 (by decide) ?_ ?_
      ·
        exact t_L_law_b891  hk18 _ _
      ·
        refine T_iconst (v := (0 : Int32)) (by decide) dL_law_387 ?_
        exact T_zret0 dL_law_388 rfl
    refine T_ite (fun hx0_9 => ?_) (fun hx0_9 => ?_)
    ·
      refine T_tabIn (off := 356) 389 dL_law_33 (by rw [hx0_9]; decide) (by rw [hx0_9]; decide) (by rw [hx0_9]; decide) (by decide) ?_
      refine T_aload_n 1 dL_law_389 rfl rfl ?_
      refine T_aload_n 0 dL_law_390 rfl rfl ?_
      refine T_iload_n 3 dL_law_391 rfl rfl ?_
      refine T_iconst (v := (1 : Int32)) (by decide) dL_law_392 ?_
      refine T_iadd dL_law_393 ?_
      refine T_sld dL_law_394 ?_
      refine T_callVI md_X11_his [.int (X.2 (x3 + (1 : Int32)).toNatClampNeg)] [] dL_law_395 kd_0 rfl rfl ok_X11_his tb_499 tb_500 tb_501 (by decide) (Nat.le_of_ble_eq_true rfl) (fun _ _ h9 => C_X11_his kd_0 _ h9) (fun r20 M20 => ?_)
      dsimp only
      refine T_aload_n 2 dL_law_398 rfl rfl ?_
      refine T_aload_n 0 dL_law_399 rfl rfl ?_
      refine T_iload_n 3 dL_law_400 rfl rfl ?_
      refine T_iconst (v := (1 : Int32)) (by decide) dL_law_401 ?_
      refine T_iadd dL_law_402 ?_
      refine T_sld dL_law_403 ?_
      refine T_callVI md_X12_his [.int (X.2 (x3 + (1 : Int32)).toNatClampNeg)] [.int r20] dL_law_404 kd_45 rfl rfl ok_X12_his tb_938 tb_939 tb_940 (by decide) (Nat.le_of_ble_eq_true rfl) (fun _ _ h9 => C_X12_his kd_45 _ h9) (fun r21 M21 => ?_)
      dsimp only
      refine T_icmp_eq 891 dL_law_407 (by decide) ?_ ?_
      ·
        exact t_L_law_b891  hk18 _ _
      ·
        refine T_iconst (v := (0 : Int32)) (by decide) dL_law_410 ?_
        exact T_zret0 dL_law_411 rfl
    refine T_ite (fun hx0_10 => ?_) (fun hx0_10 => ?_)
    ·
      refine T_tabIn (off := 379) 412 dL_law_33 (by rw [hx0_10]; decide) (by rw [hx0_10]; decide) (by rw [hx0_10]; decide) (by decide) ?_
      refine T_aload_n 1 dL_law_412 rfl rfl ?_
      refine T_aload_n 0 dL_law_413 rfl rfl ?_
      refine T_iload_n 3 dL_law_414 rfl rfl ?_
      refine T_iconst (v := (1 : Int32)) (by decide) dL_law_415 ?_
      refine T_iadd dL_law_416 ?_
      refine T_sld dL_law_417 ?_
      refine T_callVI md_X11_wrong [.int (X.2 (x3 + (1 : Int32)).toNatClampNeg)] [] dL_law_418 kd_0 rfl rfl ok_X11_wrong tb_503 tb_504 tb_505 (by decide) (Nat.le_of_ble_eq_true rfl) (fun _ _ h9 => C_X11_wrong kd_0 _ h9) (fun r22 M22 => ?_)
      dsimp only
      refine T_aload_n 2 dL_law_421 rfl rfl ?_
      refine T_aload_n 0 dL_law_422 rfl rfl ?_
      refine T_iload_n 3 dL_law_423 rfl rfl ?_
      refine T_iconst (v := (1 : Int32)) (by decide) dL_law_424 ?_
      refine T_iadd dL_law_425 ?_
      refine T_sld dL_law_426 ?_
      refine T_callVI md_X12_wrong [.int (X.2 (x3 + (1 : Int32)).toNatClampNeg)] [.int r22] dL_law_427 kd_45 rfl rfl ok_X12_wrong tb_943 tb_944 tb_945 (by decide) (Nat.le_of_ble_eq_true rfl) (fun _ _ h9 => C_X12_wrong kd_45 _ h9) (fun r23 M23 => ?_)
      dsimp only
      refine T_icmp_eq 891 dL_law_430 (by decide) ?_ ?_
      ·
        exact t_L_law_b891  hk18 _ _
      ·
        refine T_iconst (v := (0 : Int32)) (by decide) dL_law_433 ?_
        exact T_zret0 dL_law_434 rfl
    refine T_ite (fun hx0_11 => ?_) (fun hx0_11 => ?_)
    ·
      refine T_tabIn (off := 402) 435 dL_law_33 (by rw [hx0_11]; decide) (by rw [hx0_11]; decide) (by rw [hx0_11]; decide) (by decide) ?_
      refine T_aload_n 1 dL_law_435 rfl rfl ?_
      refine T_callVI md_X11_done [] [] dL_law_436 kd_0 rfl rfl ok_X11_done tb_507 tb_508 tb_509 (by decide) (Nat.le_of_ble_eq_true rfl) (fun _ _ h9 => C_X11_done kd_0  h9) (fun r24 M24 => ?_)
      dsimp only
      refine T_aload_n 2 dL_law_439 rfl rfl ?_
      refine T_callVI md_X12_done [] [.int r24] dL_law_440 kd_45 rfl rfl ok_X12_done tb_947 tb_948 tb_949 (by decide) (Nat.le_of_ble_eq_true rfl) (fun _ _ h9 => C_X12_done kd_45  h9) (fun r25 M25 => ?_)
      dsimp only
      refine T_icmp_eq 891 dL_law_443 (by decide) ?_ ?_
      ·
        exact t_L_law_b891  hk18 _ _
      ·
        refine T_iconst (v := (0 : Int32)) (by decide) dL_law_446 ?_
        exact T_zret0 dL_law_447 rfl
    refine T_ite (fun hx0_12 => ?_) (fun hx0_12 => ?_)
    ·
      refine T_tabIn (off := 415) 448 dL_law_33 (by rw [hx0_12]; decide) (by rw [hx0_12]; decide) (by rw [hx0_12]; decide) (by decide) ?_
      refine T_aload_n 1 dL_law_448 rfl rfl ?_
      refine T_aload_n 0 dL_law_449 rfl rfl ?_
      refine T_iload_n 3 dL_law_450 rfl rfl ?_
      refine T_iconst (v := (1 : Int32)) (by decide) dL_law_451 ?_
      refine T_iadd dL_law_452 ?_
      refine T_sld dL_law_453 ?_
      refine T_aload_n 0 dL_law_454 rfl rfl ?_
      refine T_iload_n 3 dL_law_455 rfl rfl ?_
      refine T_iconst (v := (2 : Int32)) (by decide) dL_law_456 ?_
      refine T_iadd dL_law_457 ?_
      refine T_sld dL_law_458 ?_
      refine T_callVI md_X11_round [.int (X.2 (x3 + (1 : Int32)).toNatClampNeg), .int (X.2 (x3 + (2 : Int32)).toNatClampNeg)] [] dL_law_459 kd_0 rfl rfl ok_X11_round tb_512 tb_513 tb_514 (by decide) (Nat.le_of_ble_eq_true rfl) (fun _ _ h9 => C_X11_round kd_0 _ _ h9) (fun r26 M26 => ?_)
      dsimp only
      refine T_aload_n 2 dL_law_462 rfl rfl ?_
      refine T_aload_n 0 dL_law_463 rfl rfl ?_
      refine T_iload_n 3 dL_law_464 rfl rfl ?_
      refine T_iconst (v := (1 : Int32)) (by decide) dL_law_465 ?_
      refine T_iadd dL_law_466 ?_
      refine T_sld dL_law_467 ?_
      refine T_aload_n 0 dL_law_468 rfl rfl ?_
      refine T_iload_n 3 dL_law_469 rfl rfl ?_
      refine T_iconst (v := (2 : Int32)) (by decide) dL_law_470 ?_
      refine T_iadd dL_law_471 ?_
      refine T_sld dL_law_472 ?_
      refine T_callVI md_X12_round [.int (X.2 (x3 + (1 : Int32)).toNatClampNeg), .int (X.2 (x3 + (2 : Int32)).toNatClampNeg)] [.int r26] dL_law_473 kd_45 rfl rfl ok_X12_round tb_951 tb_952 tb_953 (by decide) (Nat.le_of_ble_eq_true rfl) (fun _ _ h9 => C_X12_round kd_45 _ _ h9) (fun r27 M27 => ?_)
      dsimp only
      refine T_icmp_eq 891 dL_law_476 (by decide) ?_ ?_
      ·
        exact t_L_law_b891  hk18 _ _
      ·
        refine T_iconst (v := (0 : Int32)) (by decide) dL_law_479 ?_
        exact T_zret0 dL_law_480 rfl
    refine T_ite (fun hx0_13 => ?_) (fun hx0_13 => ?_)
    ·
      refine T_tabIn (off := 448) 481 dL_law_33 (by rw [hx0_13]; decide) (by rw [hx0_13]; decide) (by rw [hx0_13]; decide) (by decide) ?_
      refine T_aload_n 1 dL_law_481 rfl rfl ?_
      refine T_aload_n 0 dL_law_482 rfl rfl ?_
      refine T_iload_n 3 dL_law_483 rfl rfl ?_
      refine T_iconst (v := (1 : Int32)) (by decide) dL_law_484 ?_
      refine T_iadd dL_law_485 ?_
      refine T_sld dL_law_486 ?_
      refine T_aload_n 0 dL_law_487 rfl rfl ?_
      refine T_iload_n 3 dL_law_488 rfl rfl ?_
      refine T_iconst (v := (2 : Int32)) (by decide) dL_law_489 ?_
      refine T_iadd dL_law_490 ?_
      refine T_sld dL_law_491 ?_
      refine T_callVI md_X11_show [.int (X.2 (x3 + (1 : Int32)).toNatClampNeg), .int (X.2 (x3 + (2 : Int32)).toNatClampNeg)] [] dL_law_492 kd_0 rfl rfl ok_X11_show tb_535 tb_536 tb_537 (by decide) (Nat.le_of_ble_eq_true rfl) (fun _ _ h9 => C_X11_show kd_0 _ _ h9) (fun r28 M28 => ?_)
      dsimp only
      refine T_aload_n 2 dL_law_495 rfl rfl ?_
      refine T_aload_n 0 dL_law_496 rfl rfl ?_
      refine T_iload_n 3 dL_law_497 rfl rfl ?_
      refine T_iconst (v := (1 : Int32)) (by decide) dL_law_498 ?_
      refine T_iadd dL_law_499 ?_
      refine T_sld dL_law_500 ?_
      refine T_aload_n 0 dL_law_501 rfl rfl ?_
      refine T_iload_n 3 dL_law_502 rfl rfl ?_
      refine T_iconst (v := (2 : Int32)) (by decide) dL_law_503 ?_
      refine T_iadd dL_law_504 ?_
      refine T_sld dL_law_505 ?_
      refine T_callVI md_X12_show [.int (X.2 (x3 + (1 : Int32)).toNatClampNeg), .int (X.2 (x3 + (2 : Int32)).toNatClampNeg)] [.int r28] dL_law_506 kd_45 rfl rfl ok_X12_show tb_968 tb_969 tb_970 (by decide) (Nat.le_of_ble_eq_true rfl) (fun _ _ h9 => C_X12_show kd_45 _ _ h9) (fun r29 M29 => ?_)
      dsimp only
      refine T_icmp_eq 891 dL_law_509 (by decide) ?_ ?_
      ·
        exact t_L_law_b891  hk18 _ _
      ·
        refine T_iconst (v := (0 : Int32)) (by decide) dL_law_512 ?_
        exact T_zret0 dL_law_513 rfl
    refine T_ite (fun hx0_14 => ?_) (fun hx0_14 => ?_)
    ·
      refine T_tabIn (off := 481) 514 dL_law_33 (by rw [hx0_14]; decide) (by rw [hx0_14]; decide) (by rw [hx0_14]; decide) (by decide) ?_
      refine T_aload_n 1 dL_law_514 rfl rfl ?_
      refine T_aload_n 0 dL_law_515 rfl rfl ?_
      refine T_iload_n 3 dL_law_516 rfl rfl ?_
      refine T_iconst (v := (1 : Int32)) (by decide) dL_law_517 ?_
      refine T_iadd dL_law_518 ?_
      refine T_sld dL_law_519 ?_
      refine T_aload_n 0 dL_law_520 rfl rfl ?_
      refine T_iload_n 3 dL_law_521 rfl rfl ?_
      refine T_iconst (v := (2 : Int32)) (by decide) dL_law_522 ?_
      refine T_iadd dL_law_523 ?_
      refine T_sld dL_law_524 ?_
      refine T_callVI md_X11_owners [.int (X.2 (x3 + (1 : Int32)).toNatClampNeg), .int (X.2 (x3 + (2 : Int32)).toNatClampNeg)] [] dL_law_525 kd_0 rfl rfl ok_X11_owners tb_547 tb_548 tb_549 (by decide) (Nat.le_of_ble_eq_true rfl) (fun _ _ h9 => C_X11_owners kd_0 _ _ h9) (fun r30 M30 => ?_)
      dsimp only
      refine T_aload_n 2 dL_law_528 rfl rfl ?_
      refine T_aload_n 0 dL_law_529 rfl rfl ?_
      refine T_iload_n 3 dL_law_530 rfl rfl ?_
      refine T_iconst (v := (1 : Int32)) (by decide) dL_law_531 ?_
      refine T_iadd dL_law_532 ?_
      refine T_sld dL_law_533 ?_
      refine T_aload_n 0 dL_law_534 rfl rfl ?_
      refine T_iload_n 3 dL_law_535 rfl rfl ?_
      refine T_iconst (v := (2 : Int32)) (by decide) dL_law_536 ?_
      refine T_iadd dL_law_537 ?_
      refine T_sld dL_law_538 ?_
      refine T_callVI md_X12_owners [.int (X.2 (x3 + (1 : Int32)).toNatClampNeg), .int (X.2 (x3 + (2 : Int32)).toNatClampNeg)] [.int r30] dL_law_539 kd_45 rfl rfl ok_X12_owners tb_976 tb_977 tb_978 (by decide) (Nat.le_of_ble_eq_true rfl) (fun _ _ h9 => C_X12_owners kd_45 _ _ h9) (fun r31 M31 => ?_)
      dsimp only
      refine T_icmp_eq 891 dL_law_542 (by decide) ?_ ?_
      ·
        exact t_L_law_b891  hk18 _ _
      ·
        refine T_iconst (v := (0 : Int32)) (by decide) dL_law_545 ?_
        exact T_zret0 dL_law_546 rfl
    refine T_ite (fun hx0_15 => ?_) (fun hx0_15 => ?_)
    ·
      refine T_tabIn (off := 514) 547 dL_law_33 (by rw [hx0_15]; decide) (by rw [hx0_15]; decide) (by rw [hx0_15]; decide) (by decide) ?_
      refine T_aload_n 1 dL_law_547 rfl rfl ?_
      refine T_aload_n 0 dL_law_548 rfl rfl ?_
      refine T_iload_n 3 dL_law_549 rfl rfl ?_
      refine T_iconst (v := (1 : Int32)) (by decide) dL_law_550 ?_
      refine T_iadd dL_law_551 ?_
      refine T_sld dL_law_552 ?_
      refine T_aload_n 0 dL_law_553 rfl rfl ?_
      refine T_iload_n 3 dL_law_554 rfl rfl ?_
      refine T_iconst (v := (2 : Int32)) (by decide) dL_law_555 ?_
      refine T_iadd dL_law_556 ?_
      refine T_sld dL_law_557 ?_
      refine T_callVI md_X11_towels [.int (X.2 (x3 + (1 : Int32)).toNatClampNeg), .int (X.2 (x3 + (2 : Int32)).toNatClampNeg)] [] dL_law_558 kd_0 rfl rfl ok_X11_towels tb_571 tb_572 tb_573 (by decide) (Nat.le_of_ble_eq_true rfl) (fun _ _ h9 => C_X11_towels kd_0 _ _ h9) (fun r32 M32 => ?_)
      dsimp only
      refine T_aload_n 2 dL_law_561 rfl rfl ?_
      refine T_aload_n 0 dL_law_562 rfl rfl ?_
      refine T_iload_n 3 dL_law_563 rfl rfl ?_
      refine T_iconst (v := (1 : Int32)) (by decide) dL_law_564 ?_
      refine T_iadd dL_law_565 ?_
      refine T_sld dL_law_566 ?_
      refine T_aload_n 0 dL_law_567 rfl rfl ?_
      refine T_iload_n 3 dL_law_568 rfl rfl ?_
      refine T_iconst (v := (2 : Int32)) (by decide) dL_law_569 ?_
      refine T_iadd dL_law_570 ?_
      refine T_sld dL_law_571 ?_
      refine T_callVI md_X12_towels [.int (X.2 (x3 + (1 : Int32)).toNatClampNeg), .int (X.2 (x3 + (2 : Int32)).toNatClampNeg)] [.int r32] dL_law_572 kd_45 rfl rfl ok_X12_towels tb_994 tb_995 tb_996 (by decide) (Nat.le_of_ble_eq_true rfl) (fun _ _ h9 => C_X12_towels kd_45 _ _ h9) (fun r33 M33 => ?_)
      dsimp only
      refine T_icmp_eq 891 dL_law_575 (by decide) ?_ ?_
      ·
        exact t_L_law_b891  hk18 _ _
      ·
        refine T_iconst (v := (0 : Int32)) (by decide) dL_law_578 ?_
        exact T_zret0 dL_law_579 rfl
    refine T_ite (fun hx0_16 => ?_) (fun hx0_16 => ?_)
    ·
      refine T_tabIn (off := 547) 580 dL_law_33 (by rw [hx0_16]; decide) (by rw [hx0_16]; decide) (by rw [hx0_16]; decide) (by decide) ?_
      refine T_aload_n 1 dL_law_580 rfl rfl ?_
      refine T_aload_n 0 dL_law_581 rfl rfl ?_
      refine T_iload_n 3 dL_law_582 rfl rfl ?_
      refine T_iconst (v := (1 : Int32)) (by decide) dL_law_583 ?_
      refine T_iadd dL_law_584 ?_
      refine T_sld dL_law_585 ?_
      refine T_aload_n 0 dL_law_586 rfl rfl ?_
      refine T_iload_n 3 dL_law_587 rfl rfl ?_
      refine T_iconst (v := (2 : Int32)) (by decide) dL_law_588 ?_
      refine T_iadd dL_law_589 ?_
      refine T_sld dL_law_590 ?_
      refine T_callVI md_X11_found [.int (X.2 (x3 + (1 : Int32)).toNatClampNeg), .int (X.2 (x3 + (2 : Int32)).toNatClampNeg)] [] dL_law_591 kd_0 rfl rfl ok_X11_found tb_588 tb_589 tb_590 (by decide) (Nat.le_of_ble_eq_true rfl) (fun _ _ h9 => C_X11_found kd_0 _ _ h9) (fun r34 M34 => ?_)
      dsimp only
      refine T_aload_n 2 dL_law_594 rfl rfl ?_
      refine T_aload_n 0 dL_law_595 rfl rfl ?_
      refine T_iload_n 3 dL_law_596 rfl rfl ?_
      refine T_iconst (v := (1 : Int32)) (by decide) dL_law_597 ?_
      refine T_iadd dL_law_598 ?_
      refine T_sld dL_law_599 ?_
      refine T_aload_n 0 dL_law_600 rfl rfl ?_
      refine T_iload_n 3 dL_law_601 rfl rfl ?_
      refine T_iconst (v := (2 : Int32)) (by decide) dL_law_602 ?_
      refine T_iadd dL_law_603 ?_
      refine T_sld dL_law_604 ?_
      refine T_callVI md_X12_found [.int (X.2 (x3 + (1 : Int32)).toNatClampNeg), .int (X.2 (x3 + (2 : Int32)).toNatClampNeg)] [.int r34] dL_law_605 kd_45 rfl rfl ok_X12_found tb_1006 tb_1007 tb_1008 (by decide) (Nat.le_of_ble_eq_true rfl) (fun _ _ h9 => C_X12_found kd_45 _ _ h9) (fun r35 M35 => ?_)
      dsimp only
      refine T_icmp_eq 891 dL_law_608 (by decide) ?_ ?_
      ·
        exact t_L_law_b891  hk18 _ _
      ·
        refine T_iconst (v := (0 : Int32)) (by decide) dL_law_611 ?_
        exact T_zret0 dL_law_612 rfl
    refine T_ite (fun hx0_17 => ?_) (fun hx0_17 => ?_)
    ·
      refine T_tabIn (off := 580) 613 dL_law_33 (by rw [hx0_17]; decide) (by rw [hx0_17]; decide) (by rw [hx0_17]; decide) (by decide) ?_
      refine T_aload_n 1 dL_law_613 rfl rfl ?_
      refine T_callVI md_X11_forget [] [] dL_law_614 kd_0 rfl rfl ok_X11_forget tb_596 tb_597 tb_598 (by decide) (Nat.le_of_ble_eq_true rfl) (fun _ _ h9 => C_X11_forget kd_0  h9) (fun r36 M36 => ?_)
      dsimp only
      refine T_aload_n 2 dL_law_617 rfl rfl ?_
      refine T_callVI md_X12_forget [] [.int r36] dL_law_618 kd_45 rfl rfl ok_X12_forget tb_1014 tb_1015 tb_1016 (by decide) (Nat.le_of_ble_eq_true rfl) (fun _ _ h9 => C_X12_forget kd_45  h9) (fun r37 M37 => ?_)
      dsimp only
      refine T_icmp_eq 891 dL_law_621 (by decide) ?_ ?_
      ·
        exact t_L_law_b891  hk18 _ _
      ·
        refine T_iconst (v := (0 : Int32)) (by decide) dL_law_624 ?_
        exact T_zret0 dL_law_625 rfl
    refine T_ite (fun hx0_18 => ?_) (fun hx0_18 => ?_)
    ·
      refine T_tabIn (off := 593) 626 dL_law_33 (by rw [hx0_18]; decide) (by rw [hx0_18]; decide) (by rw [hx0_18]; decide) (by decide) ?_
      refine T_aload_n 1 dL_law_626 rfl rfl ?_
      refine T_aload_n 0 dL_law_627 rfl rfl ?_
      refine T_iload_n 3 dL_law_628 rfl rfl ?_
      refine T_iconst (v := (1 : Int32)) (by decide) dL_law_629 ?_
      refine T_iadd dL_law_630 ?_
      refine T_sld dL_law_631 ?_
      refine T_callVI md_X11_fits [.int (X.2 (x3 + (1 : Int32)).toNatClampNeg)] [] dL_law_632 kd_0 rfl rfl ok_X11_fits tb_600 tb_601 tb_602 (by decide) (Nat.le_of_ble_eq_true rfl) (fun _ _ h9 => C_X11_fits kd_0 _ h9) (fun r38 M38 => ?_)
      dsimp only
      refine T_aload_n 2 dL_law_635 rfl rfl ?_
      refine T_aload_n 0 dL_law_636 rfl rfl ?_
      refine T_iload_n 3 dL_law_637 rfl rfl ?_
      refine T_iconst (v := (1 : Int32)) (by decide) dL_law_638 ?_
      refine T_iadd dL_law_639 ?_
      refine T_sld dL_law_640 ?_
      refine T_callVI md_X12_fits [.int (X.2 (x3 + (1 : Int32)).toNatClampNeg)] [.int r38] dL_law_641 kd_45 rfl rfl ok_X12_fits tb_1018 tb_1019 tb_1020 (by decide) (Nat.le_of_ble_eq_true rfl) (fun _ _ h9 => C_X12_fits kd_45 _ h9) (fun r39 M39 => ?_)
      dsimp only
      refine T_icmp_eq 891 dL_law_644 (by decide) ?_ ?_
      ·
        exact t_L_law_b891  hk18 _ _
      ·
        refine T_iconst (v := (0 : Int32)) (by decide) dL_law_647 ?_
        exact T_zret0 dL_law_648 rfl
    refine T_ite (fun hx0_19 => ?_) (fun hx0_19 => ?_)
    ·
      refine T_tabIn (off := 616) 649 dL_law_33 (by rw [hx0_19]; decide) (by rw [hx0_19]; decide) (by rw [hx0_19]; decide) (by decide) ?_
      refine T_aload_n 1 dL_law_649 rfl rfl ?_
      refine T_aload_n 0 dL_law_650 rfl rfl ?_
      refine T_iload_n 3 dL_law_651 rfl rfl ?_
      refine T_iconst (v := (1 : Int32)) (by decide) dL_law_652 ?_
      refine T_iadd dL_law_653 ?_
      refine T_sld dL_law_654 ?_
      refine T_callVI md_X11_ask [.int (X.2 (x3 + (1 : Int32)).toNatClampNeg)] [] dL_law_655 kd_0 rfl rfl ok_X11_ask tb_614 tb_615 tb_616 (by decide) (Nat.le_of_ble_eq_true rfl) (fun _ _ h9 => C_X11_ask kd_0 _ h9) (fun r40 M40 => ?_)
      dsimp only
      refine T_aload_n 2 dL_law_658 rfl rfl ?_
      refine T_aload_n 0 dL_law_659 rfl rfl ?_
      refine T_iload_n 3 dL_law_660 rfl rfl ?_
      refine T_iconst (v := (1 : Int32)) (by decide) dL_law_661 ?_
      refine T_iadd dL_law_662 ?_
      refine T_sld dL_law_663 ?_
      refine T_callVI md_X12_ask [.int (X.2 (x3 + (1 : Int32)).toNatClampNeg)] [.int r40] dL_law_664 kd_45 rfl rfl ok_X12_ask tb_1029 tb_1030 tb_1031 (by decide) (Nat.le_of_ble_eq_true rfl) (fun _ _ h9 => C_X12_ask kd_45 _ h9) (fun r41 M41 => ?_)
      dsimp only
      refine T_icmp_eq 891 dL_law_667 (by decide) ?_ ?_
      ·
        exact t_L_law_b891  hk18 _ _
      ·
        refine T_iconst (v := (0 : Int32)) (by decide) dL_law_670 ?_
        exact T_zret0 dL_law_671 rfl
    refine T_ite (fun hx0_20 => ?_) (fun hx0_20 => ?_)
    ·
      refine T_tabIn (off := 639) 672 dL_law_33 (by rw [hx0_20]; decide) (by rw [hx0_20]; decide) (by rw [hx0_20]; decide) (by decide) ?_
      refine T_aload_n 1 dL_law_672 rfl rfl ?_
      refine T_aload_n 0 dL_law_673 rfl rfl ?_
      refine T_iload_n 3 dL_law_674 rfl rfl ?_
      refine T_iconst (v := (1 : Int32)) (by decide) dL_law_675 ?_
      refine T_iadd dL_law_676 ?_
      refine T_sld dL_law_677 ?_
      refine T_aload_n 0 dL_law_678 rfl rfl ?_
      refine T_iload_n 3 dL_law_679 rfl rfl ?_
      refine T_iconst (v := (2 : Int32)) (by decide) dL_law_680 ?_
      refine T_iadd dL_law_681 ?_
      refine T_sld dL_law_682 ?_
      refine T_aload_n 0 dL_law_683 rfl rfl ?_
      refine T_iload_n 3 dL_law_684 rfl rfl ?_
      refine T_iconst (v := (3 : Int32)) (by decide) dL_law_685 ?_
      refine T_iadd dL_law_686 ?_
      refine T_sld dL_law_687 ?_
      refine T_callVI md_X11_piles [.int (X.2 (x3 + (1 : Int32)).toNatClampNeg), .int (X.2 (x3 + (2 : Int32)).toNatClampNeg), .int (X.2 (x3 + (3 : Int32)).toNatClampNeg)] [] dL_law_688 kd_0 rfl rfl ok_X11_piles tb_627 tb_628 tb_629 (by decide) (Nat.le_of_ble_eq_true rfl) (fun _ _ h9 => C_X11_piles kd_0 _ _ _ h9) (fun r42 M42 => ?_)
      dsimp only
      refine T_aload_n 2 dL_law_691 rfl rfl ?_
      refine T_aload_n 0 dL_law_692 rfl rfl ?_
      refine T_iload_n 3 dL_law_693 rfl rfl ?_
      refine T_iconst (v := (1 : Int32)) (by decide) dL_law_694 ?_
      refine T_iadd dL_law_695 ?_
      refine T_sld dL_law_696 ?_
      refine T_aload_n 0 dL_law_697 rfl rfl ?_
      refine T_iload_n 3 dL_law_698 rfl rfl ?_
      refine T_iconst (v := (2 : Int32)) (by decide) dL_law_699 ?_
      refine T_iadd dL_law_700 ?_
      refine T_sld dL_law_701 ?_
      refine T_aload_n 0 dL_law_702 rfl rfl ?_
      refine T_iload_n 3 dL_law_703 rfl rfl ?_
      refine T_iconst (v := (3 : Int32)) (by decide) dL_law_704 ?_
      refine T_iadd dL_law_705 ?_
      refine T_sld dL_law_706 ?_
      refine T_callVI md_X12_piles [.int (X.2 (x3 + (1 : Int32)).toNatClampNeg), .int (X.2 (x3 + (2 : Int32)).toNatClampNeg), .int (X.2 (x3 + (3 : Int32)).toNatClampNeg)] [.int r42] dL_law_707 kd_45 rfl rfl ok_X12_piles tb_1037 tb_1038 tb_1039 (by decide) (Nat.le_of_ble_eq_true rfl) (fun _ _ h9 => C_X12_piles kd_45 _ _ _ h9) (fun r43 M43 => ?_)
      dsimp only
      refine T_icmp_eq 891 dL_law_710 (by decide) ?_ ?_
      ·
        exact t_L_law_b891  hk18 _ _
      ·
        refine T_iconst (v := (0 : Int32)) (by decide) dL_law_713 ?_
        exact T_zret0 dL_law_714 rfl
    refine T_ite (fun hx0_21 => ?_) (fun hx0_21 => ?_)
    ·
      refine T_tabIn (off := 682) 715 dL_law_33 (by rw [hx0_21]; decide) (by rw [hx0_21]; decide) (by rw [hx0_21]; decide) (by decide) ?_
      refine T_aload_n 1 dL_law_715 rfl rfl ?_
      refine T_aload_n 0 dL_law_716 rfl rfl ?_
      refine T_iload_n 3 dL_law_717 rfl rfl ?_
      refine T_iconst (v := (1 : Int32)) (by decide) dL_law_718 ?_
      refine T_iadd dL_law_719 ?_
      refine T_sld dL_law_720 ?_
      refine T_aload_n 0 dL_law_721 rfl rfl ?_
      refine T_iload_n 3 dL_law_722 rfl rfl ?_
      refine T_iconst (v := (2 : Int32)) (by decide) dL_law_723 ?_
      refine T_iadd dL_law_724 ?_
      refine T_sld dL_law_725 ?_
      refine T_aload_n 0 dL_law_726 rfl rfl ?_
      refine T_iload_n 3 dL_law_727 rfl rfl ?_
      refine T_iconst (v := (3 : Int32)) (by decide) dL_law_728 ?_
      refine T_iadd dL_law_729 ?_
      refine T_sld dL_law_730 ?_
      refine T_aload_n 0 dL_law_731 rfl rfl ?_
      refine T_iload_n 3 dL_law_732 rfl rfl ?_
      refine T_iconst (v := (4 : Int32)) (by decide) dL_law_733 ?_
      refine T_iadd dL_law_734 ?_
      refine T_sld dL_law_735 ?_
      refine T_aload_n 0 dL_law_736 rfl rfl ?_
      refine T_iload_n 3 dL_law_737 rfl rfl ?_
      refine T_iconst (v := (5 : Int32)) (by decide) dL_law_738 ?_
      refine T_iadd dL_law_739 ?_
      refine T_sld dL_law_740 ?_
      refine T_callVL md_X11_lengths [.int (X.2 (x3 + (1 : Int32)).toNatClampNeg), .int (X.2 (x3 + (2 : Int32)).toNatClampNeg), .int (X.2 (x3 + (3 : Int32)).toNatClampNeg), .int (X.2 (x3 + (4 : Int32)).toNatClampNeg), .int (X.2 (x3 + (5 : Int32)).toNatClampNeg)] [] dL_law_741 kd_0 rfl rfl ok_X11_lengths tb_639 tb_640 tb_641 (by decide) (Nat.le_of_ble_eq_true rfl) (fun _ _ h9 => C_X11_lengths kd_0 _ _ _ _ _ h9) (fun r44 M44 => ?_)
      dsimp only
      refine T_aload_n 2 dL_law_744 rfl rfl ?_
      refine T_aload_n 0 dL_law_745 rfl rfl ?_
      refine T_iload_n 3 dL_law_746 rfl rfl ?_
      refine T_iconst (v := (1 : Int32)) (by decide) dL_law_747 ?_
      refine T_iadd dL_law_748 ?_
      refine T_sld dL_law_749 ?_
      refine T_aload_n 0 dL_law_750 rfl rfl ?_
      refine T_iload_n 3 dL_law_751 rfl rfl ?_
      refine T_iconst (v := (2 : Int32)) (by decide) dL_law_752 ?_
      refine T_iadd dL_law_753 ?_
      refine T_sld dL_law_754 ?_
      refine T_aload_n 0 dL_law_755 rfl rfl ?_
      refine T_iload_n 3 dL_law_756 rfl rfl ?_
      refine T_iconst (v := (3 : Int32)) (by decide) dL_law_757 ?_
      refine T_iadd dL_law_758 ?_
      refine T_sld dL_law_759 ?_
      refine T_aload_n 0 dL_law_760 rfl rfl ?_
      refine T_iload_n 3 dL_law_761 rfl rfl ?_
      refine T_iconst (v := (4 : Int32)) (by decide) dL_law_762 ?_
      refine T_iadd dL_law_763 ?_
      refine T_sld dL_law_764 ?_
      refine T_aload_n 0 dL_law_765 rfl rfl ?_
      refine T_iload_n 3 dL_law_766 rfl rfl ?_
      refine T_iconst (v := (5 : Int32)) (by decide) dL_law_767 ?_
      refine T_iadd dL_law_768 ?_
      refine T_sld dL_law_769 ?_
      refine T_callVL md_X12_lengths [.int (X.2 (x3 + (1 : Int32)).toNatClampNeg), .int (X.2 (x3 + (2 : Int32)).toNatClampNeg), .int (X.2 (x3 + (3 : Int32)).toNatClampNeg), .int (X.2 (x3 + (4 : Int32)).toNatClampNeg), .int (X.2 (x3 + (5 : Int32)).toNatClampNeg)] [.long r44] dL_law_770 kd_45 rfl rfl ok_X12_lengths tb_1050 tb_1051 tb_1052 (by decide) (Nat.le_of_ble_eq_true rfl) (fun _ _ h9 => C_X12_lengths kd_45 _ _ _ _ _ h9) (fun r45 M45 => ?_)
      dsimp only
      refine T_lcmp dL_law_773 ?_
      refine T_if_eq 891 dL_law_774 (by decide) ?_ ?_
      ·
        exact t_L_law_b891  hk18 _ _
      ·
        refine T_iconst (v := (0 : Int32)) (by decide) dL_law_777 ?_
        exact T_zret0 dL_law_778 rfl
    refine T_ite (fun hx0_22 => ?_) (fun hx0_22 => ?_)
    ·
      refine T_tabIn (off := 746) 779 dL_law_33 (by rw [hx0_22]; decide) (by rw [hx0_22]; decide) (by rw [hx0_22]; decide) (by decide) ?_
      refine T_aload_n 1 dL_law_779 rfl rfl ?_
      refine T_aload_n 0 dL_law_780 rfl rfl ?_
      refine T_iload_n 3 dL_law_781 rfl rfl ?_
      refine T_iconst (v := (1 : Int32)) (by decide) dL_law_782 ?_
      refine T_iadd dL_law_783 ?_
      refine T_sld dL_law_784 ?_
      refine T_aload_n 0 dL_law_785 rfl rfl ?_
      refine T_iload_n 3 dL_law_786 rfl rfl ?_
      refine T_iconst (v := (2 : Int32)) (by decide) dL_law_787 ?_
      refine T_iadd dL_law_788 ?_
      refine T_sld dL_law_789 ?_
      refine T_aload_n 0 dL_law_790 rfl rfl ?_
      refine T_iload_n 3 dL_law_791 rfl rfl ?_
      refine T_iconst (v := (3 : Int32)) (by decide) dL_law_792 ?_
      refine T_iadd dL_law_793 ?_
      refine T_sld dL_law_794 ?_
      refine T_callVI md_X11_year [.int (X.2 (x3 + (1 : Int32)).toNatClampNeg), .int (X.2 (x3 + (2 : Int32)).toNatClampNeg), .int (X.2 (x3 + (3 : Int32)).toNatClampNeg)] [] dL_law_795 kd_0 rfl rfl ok_X11_year tb_664 tb_665 tb_666 (by decide) (Nat.le_of_ble_eq_true rfl) (fun _ _ h9 => C_X11_year kd_0 _ _ _ h9) (fun r46 M46 => ?_)
      dsimp only
      refine T_aload_n 2 dL_law_798 rfl rfl ?_
      refine T_aload_n 0 dL_law_799 rfl rfl ?_
      refine T_iload_n 3 dL_law_800 rfl rfl ?_
      refine T_iconst (v := (1 : Int32)) (by decide) dL_law_801 ?_
      refine T_iadd dL_law_802 ?_
      refine T_sld dL_law_803 ?_
      refine T_aload_n 0 dL_law_804 rfl rfl ?_
      refine T_iload_n 3 dL_law_805 rfl rfl ?_
      refine T_iconst (v := (2 : Int32)) (by decide) dL_law_806 ?_
      refine T_iadd dL_law_807 ?_
      refine T_sld dL_law_808 ?_
      refine T_aload_n 0 dL_law_809 rfl rfl ?_
      refine T_iload_n 3 dL_law_810 rfl rfl ?_
      refine T_iconst (v := (3 : Int32)) (by decide) dL_law_811 ?_
      refine T_iadd dL_law_812 ?_
      refine T_sld dL_law_813 ?_
      refine T_callVI md_X12_year [.int (X.2 (x3 + (1 : Int32)).toNatClampNeg), .int (X.2 (x3 + (2 : Int32)).toNatClampNeg), .int (X.2 (x3 + (3 : Int32)).toNatClampNeg)] [.int r46] dL_law_814 kd_45 rfl rfl ok_X12_year tb_1060 tb_1061 tb_1062 (by decide) (Nat.le_of_ble_eq_true rfl) (fun _ _ h9 => C_X12_year kd_45 _ _ _ h9) (fun r47 M47 => ?_)
      dsimp only
      refine T_icmp_eq 891 dL_law_817 (by decide) ?_ ?_
      ·
        exact t_L_law_b891  hk18 _ _
      ·
        refine T_iconst (v := (0 : Int32)) (by decide) dL_law_820 ?_
        exact T_zret0 dL_law_821 rfl
    refine T_ite (fun hx0_23 => ?_) (fun hx0_23 => ?_)
    ·
      refine T_tabIn (off := 789) 822 dL_law_33 (by rw [hx0_23]; decide) (by rw [hx0_23]; decide) (by rw [hx0_23]; decide) (by decide) ?_
      refine T_aload_n 1 dL_law_822 rfl rfl ?_
      refine T_aload_n 0 dL_law_823 rfl rfl ?_
      refine T_iload_n 3 dL_law_824 rfl rfl ?_
      refine T_iconst (v := (1 : Int32)) (by decide) dL_law_825 ?_
      refine T_iadd dL_law_826 ?_
      refine T_sld dL_law_827 ?_
      refine T_callVI md_X11_image [.int (X.2 (x3 + (1 : Int32)).toNatClampNeg)] [] dL_law_828 kd_0 rfl rfl ok_X11_image tb_676 tb_677 tb_678 (by decide) (Nat.le_of_ble_eq_true rfl) (fun _ _ h9 => C_X11_image kd_0 _ h9) (fun r48 M48 => ?_)
      dsimp only
      refine T_aload_n 2 dL_law_831 rfl rfl ?_
      refine T_aload_n 0 dL_law_832 rfl rfl ?_
      refine T_iload_n 3 dL_law_833 rfl rfl ?_
      refine T_iconst (v := (1 : Int32)) (by decide) dL_law_834 ?_
      refine T_iadd dL_law_835 ?_
      refine T_sld dL_law_836 ?_
      refine T_callVI md_X12_image [.int (X.2 (x3 + (1 : Int32)).toNatClampNeg)] [.int r48] dL_law_837 kd_45 rfl rfl ok_X12_image tb_1070 tb_1071 tb_1072 (by decide) (Nat.le_of_ble_eq_true rfl) (fun _ _ h9 => C_X12_image kd_45 _ h9) (fun r49 M49 => ?_)
      dsimp only
      refine T_icmp_eq 891 dL_law_840 (by decide) ?_ ?_
      ·
        exact t_L_law_b891  hk18 _ _
      ·
        refine T_iconst (v := (0 : Int32)) (by decide) dL_law_843 ?_
        exact T_zret0 dL_law_844 rfl
    refine T_ite (fun hx0_24 => ?_) (fun hx0_24 => ?_)
    ·
      refine T_tabIn (off := 812) 845 dL_law_33 (by rw [hx0_24]; decide) (by rw [hx0_24]; decide) (by rw [hx0_24]; decide) (by decide) ?_
      refine T_aload_n 1 dL_law_845 rfl rfl ?_
      refine T_aload_n 0 dL_law_846 rfl rfl ?_
      refine T_iload_n 3 dL_law_847 rfl rfl ?_
      refine T_iconst (v := (1 : Int32)) (by decide) dL_law_848 ?_
      refine T_iadd dL_law_849 ?_
      refine T_sld dL_law_850 ?_
      refine T_callVI md_X11_restore [.int (X.2 (x3 + (1 : Int32)).toNatClampNeg)] [] dL_law_851 kd_0 rfl rfl ok_X11_restore tb_689 tb_690 tb_691 (by decide) (Nat.le_of_ble_eq_true rfl) (fun _ _ h9 => C_X11_restore kd_0 _ h9) (fun r50 M50 => ?_)
      dsimp only
      refine T_aload_n 2 dL_law_854 rfl rfl ?_
      refine T_aload_n 0 dL_law_855 rfl rfl ?_
      refine T_iload_n 3 dL_law_856 rfl rfl ?_
      refine T_iconst (v := (1 : Int32)) (by decide) dL_law_857 ?_
      refine T_iadd dL_law_858 ?_
      refine T_sld dL_law_859 ?_
      refine T_callVI md_X12_restore [.int (X.2 (x3 + (1 : Int32)).toNatClampNeg)] [.int r50] dL_law_860 kd_45 rfl rfl ok_X12_restore tb_1086 tb_1087 tb_1088 (by decide) (Nat.le_of_ble_eq_true rfl) (fun _ _ h9 => C_X12_restore kd_45 _ h9) (fun r51 M51 => ?_)
      dsimp only
      refine T_icmp_eq 891 dL_law_863 (by decide) ?_ ?_
      ·
        exact t_L_law_b891  hk18 _ _
      ·
        refine T_iconst (v := (0 : Int32)) (by decide) dL_law_866 ?_
        exact T_zret0 dL_law_867 rfl
    refine T_ite (fun hx0_25 => ?_) (fun hx0_25 => ?_)
    ·
      refine T_tabIn (off := 835) 868 dL_law_33 (by rw [hx0_25]; decide) (by rw [hx0_25]; decide) (by rw [hx0_25]; decide) (by decide) ?_
      refine T_aload_n 1 dL_law_868 rfl rfl ?_
      refine T_aload_n 0 dL_law_869 rfl rfl ?_
      refine T_iload_n 3 dL_law_870 rfl rfl ?_
      refine T_iconst (v := (1 : Int32)) (by decide) dL_law_871 ?_
      refine T_iadd dL_law_872 ?_
      refine T_sld dL_law_873 ?_
      refine T_callVI md_X11_told [.int (X.2 (x3 + (1 : Int32)).toNatClampNeg)] [] dL_law_874 kd_0 rfl rfl ok_X11_told tb_693 tb_694 tb_695 (by decide) (Nat.le_of_ble_eq_true rfl) (fun _ _ h9 => C_X11_told kd_0 _ h9) (fun r52 M52 => ?_)
      dsimp only
      refine T_aload_n 2 dL_law_877 rfl rfl ?_
      refine T_aload_n 0 dL_law_878 rfl rfl ?_
      refine T_iload_n 3 dL_law_879 rfl rfl ?_
      refine T_iconst (v := (1 : Int32)) (by decide) dL_law_880 ?_
      refine T_iadd dL_law_881 ?_
      refine T_sld dL_law_882 ?_
      refine T_callVI md_X12_told [.int (X.2 (x3 + (1 : Int32)).toNatClampNeg)] [.int r52] dL_law_883 kd_45 rfl rfl ok_X12_told tb_1090 tb_1091 tb_1092 (by decide) (Nat.le_of_ble_eq_true rfl) (fun _ _ h9 => C_X12_told kd_45 _ h9) (fun r53 M53 => ?_)
      dsimp only
      refine T_icmp_eq 891 dL_law_886 (by decide) ?_ ?_
      ·
        exact t_L_law_b891  hk18 _ _
      ·
        refine T_iconst (v := (0 : Int32)) (by decide) dL_law_889 ?_
        exact T_zret0 dL_law_890 rfl
    refine T_tabOut 891 dL_law_33 (tab_out (n := 26) (by decide) (lt_s (lt_s (lt_s (lt_s (lt_s (lt_s (lt_s (lt_s (lt_s (lt_s (lt_s (lt_s (lt_s (lt_s (lt_s (lt_s (lt_s (lt_s (lt_s (lt_s (lt_s (lt_s (lt_s (lt_s (lt_s (lt_s lt_0 (lv_neT hx0_0 (by decide))) (lv_neT hx0_1 (by decide))) (lv_neT hx0_2 (by decide))) (lv_neT hx0_3 (by decide))) (lv_neT hx0_4 (by decide))) (lv_neT hx0_5 (by decide))) (lv_neT hx0_6 (by decide))) (lv_neT hx0_7 (by decide))) (lv_neT hx0_8 (by decide))) (lv_neT hx0_9 (by decide))) (lv_neT hx0_10 (by decide))) (lv_neT hx0_11 (by decide))) (lv_neT hx0_12 (by decide))) (lv_neT hx0_13 (by decide))) (lv_neT hx0_14 (by decide))) (lv_neT hx0_15 (by decide))) (lv_neT hx0_16 (by decide))) (lv_neT hx0_17 (by decide))) (lv_neT hx0_18 (by decide))) (lv_neT hx0_19 (by decide))) (lv_neT hx0_20 (by decide))) (lv_neT hx0_21 (by decide))) (lv_neT hx0_22 (by decide))) (lv_neT hx0_23 (by decide))) (lv_neT hx0_24 (by decide))) (lv_neT hx0_25 (by decide)))) (by decide) ?_
    exact t_L_law_b891  hk18 _ _
theorem t_L_law_l18 {X : Scr}   (n : Nat) : ∀ (x3 : Int32) (M : Mem), T X eI (L_law_l18 X   n x3 M) md_L_law 18 [(0, .ref 1000), (1, .ref 0), (2, .ref 45), (3, .int x3)] [] M := by
  induction n with
  | zero => intro x3 M; exact T_none
  | succ n ih => intro x3 M; exact t_L_law_b18  ih x3 M
set_option maxHeartbeats 4000000 in
set_option maxRecDepth 100000 in
theorem t_L_law {X : Scr}    (M : Mem) : T X eI (L_law X    M) md_L_law 16 [(0, .ref 1000), (1, .ref 0), (2, .ref 45)] [] M := by
  unfold L_law
  refine T_iconst (v := (0 : Int32)) (by decide) dL_law_16 ?_
  refine T_istore_n [(3, .int (0 : Int32)), (0, .ref 1000), (1, .ref 0), (2, .ref 45)] dL_law_17 rfl (by decide) rfl ?_
  refine T_sub [1, 2, 3, 0] (lv' := [(0, .ref 1000), (1, .ref 0), (2, .ref 45), (3, .int (0 : Int32))]) rfl ?_
  exact t_L_law_l18   _ _ _
