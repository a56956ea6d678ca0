theorem lf_X8_walk_0 (h0 : Nat) (mk : Nat) (mg : Nat) (mhb : Nat) (mdn : Nat) (mda : Nat) (mkp : Nat) (mbr : Nat) (msu : Nat) (msg : Nat) (mlo : Nat) (moa : Nat) (mog : Nat) (mop : Nat) (mra : Nat) (nd : Nat) (kp : Int32) (mo : Int32) (ne : Int32) (gl : Int32) (ca : Int32) (no : Nat) (rs : Int32) (rw_ : Int32) (bc : Int32) (bo : Int32) (be : Int32) (da : Nat → Int32) (kf : Nat → Int32) (ra : Nat → Int32) (d : Nat) (pt : Nat) (x0 : Int32) (y0 : Int32) (hd4 : d < 4) (hpt : pt < 16) (hxy : cellB x0 y0 = true) (hda : da d = y0 * 8 + x0) (n_ : Nat) (x : Int32) (y : Int32) (j : Nat) (q : Bool) (tp : List Int32) (ra1 : Nat → Int32) (hj : j ≤ 8) (hfj : 9 ≤ j + (n_ + 1)) (hpo : poI x0 y0 (stX pt) (stY pt) x y j) (htp : tp.length ≤ j) (hra : raI tp ra1) (c_48 : q = true) (hwk : wkI kf (stX pt) (stY pt) x0 y0 true x y j tp) (c_57 : (cellB x y) = true) (hj8 : j < 8) (c_66 : (stX pt) = 2) (c_78 : (stY pt) = 0) : 0 = (b2i (sdB kf x y (stX pt) (stY pt))) := by clear hwk hpo hra hda hxy; simp_all [sdB, b2i]
theorem lf_X8_walk_1 (h0 : Nat) (mk : Nat) (mg : Nat) (mhb : Nat) (mdn : Nat) (mda : Nat) (mkp : Nat) (mbr : Nat) (msu : Nat) (msg : Nat) (mlo : Nat) (moa : Nat) (mog : Nat) (mop : Nat) (mra : Nat) (nd : Nat) (kp : Int32) (mo : Int32) (ne : Int32) (gl : Int32) (ca : Int32) (no : Nat) (rs : Int32) (rw_ : Int32) (bc : Int32) (bo : Int32) (be : Int32) (da : Nat → Int32) (kf : Nat → Int32) (ra : Nat → Int32) (d : Nat) (pt : Nat) (x0 : Int32) (y0 : Int32) (hd4 : d < 4) (hpt : pt < 16) (hxy : cellB x0 y0 = true) (hda : da d = y0 * 8 + x0) (n_ : Nat) (x : Int32) (y : Int32) (j : Nat) (q : Bool) (tp : List Int32) (ra1 : Nat → Int32) (hj : j ≤ 8) (hfj : 9 ≤ j + (n_ + 1)) (hpo : poI x0 y0 (stX pt) (stY pt) x y j) (htp : tp.length ≤ j) (hra : raI tp ra1) (c_48 : q = true) (hwk : wkI kf (stX pt) (stY pt) x0 y0 true x y j tp) (c_57 : (cellB x y) = true) (hj8 : j < 8) (c_66 : (stX pt) = 2) (c_78 : ¬ (stY pt) = 0) (c_93 : (wallB kf (x + ((stX pt) / 2)) y) = false) : 0 = (b2i (sdB kf x y (stX pt) (stY pt))) := by clear hwk hpo hra hda hxy; simp_all [sdB, b2i]
theorem lf_X8_walk_2 (h0 : Nat) (mk : Nat) (mg : Nat) (mhb : Nat) (mdn : Nat) (mda : Nat) (mkp : Nat) (mbr : Nat) (msu : Nat) (msg : Nat) (mlo : Nat) (moa : Nat) (mog : Nat) (mop : Nat) (mra : Nat) (nd : Nat) (kp : Int32) (mo : Int32) (ne : Int32) (gl : Int32) (ca : Int32) (no : Nat) (rs : Int32) (rw_ : Int32) (bc : Int32) (bo : Int32) (be : Int32) (da : Nat → Int32) (kf : Nat → Int32) (ra : Nat → Int32) (d : Nat) (pt : Nat) (x0 : Int32) (y0 : Int32) (hd4 : d < 4) (hpt : pt < 16) (hxy : cellB x0 y0 = true) (hda : da d = y0 * 8 + x0) (n_ : Nat) (x : Int32) (y : Int32) (j : Nat) (q : Bool) (tp : List Int32) (ra1 : Nat → Int32) (hj : j ≤ 8) (hfj : 9 ≤ j + (n_ + 1)) (hpo : poI x0 y0 (stX pt) (stY pt) x y j) (htp : tp.length ≤ j) (hra : raI tp ra1) (c_48 : q = true) (hwk : wkI kf (stX pt) (stY pt) x0 y0 true x y j tp) (c_57 : (cellB x y) = true) (hj8 : j < 8) (c_66 : (stX pt) = 2) (c_78 : ¬ (stY pt) = 0) (c_93 : (wallB kf (x + ((stX pt) / 2)) y) = true) (c_111 : (wallB kf (x + ((stX pt) / 2)) (y + (stY pt))) = false) : 0 = (b2i (sdB kf x y (stX pt) (stY pt))) := by clear hwk hpo hra hda hxy; simp_all [sdB, b2i]
theorem lf_X8_walk_3 (h0 : Nat) (mk : Nat) (mg : Nat) (mhb : Nat) (mdn : Nat) (mda : Nat) (mkp : Nat) (mbr : Nat) (msu : Nat) (msg : Nat) (mlo : Nat) (moa : Nat) (mog : Nat) (mop : Nat) (mra : Nat) (nd : Nat) (kp : Int32) (mo : Int32) (ne : Int32) (gl : Int32) (ca : Int32) (no : Nat) (rs : Int32) (rw_ : Int32) (bc : Int32) (bo : Int32) (be : Int32) (da : Nat → Int32) (kf : Nat → Int32) (ra : Nat → Int32) (d : Nat) (pt : Nat) (x0 : Int32) (y0 : Int32) (hd4 : d < 4) (hpt : pt < 16) (hxy : cellB x0 y0 = true) (hda : da d = y0 * 8 + x0) (n_ : Nat) (x : Int32) (y : Int32) (j : Nat) (q : Bool) (tp : List Int32) (ra1 : Nat → Int32) (hj : j ≤ 8) (hfj : 9 ≤ j + (n_ + 1)) (hpo : poI x0 y0 (stX pt) (stY pt) x y j) (htp : tp.length ≤ j) (hra : raI tp ra1) (c_48 : q = true) (hwk : wkI kf (stX pt) (stY pt) x0 y0 true x y j tp) (c_57 : (cellB x y) = true) (hj8 : j < 8) (c_66 : (stX pt) = 2) (c_78 : ¬ (stY pt) = 0) (c_93 : (wallB kf (x + ((stX pt) / 2)) y) = true) (c_111 : (wallB kf (x + ((stX pt) / 2)) (y + (stY pt))) = true) : 1 = (b2i (sdB kf x y (stX pt) (stY pt))) := by clear hwk hpo hra hda hxy; simp_all [sdB, b2i]
theorem lf_X8_walk_4 (h0 : Nat) (mk : Nat) (mg : Nat) (mhb : Nat) (mdn : Nat) (mda : Nat) (mkp : Nat) (mbr : Nat) (msu : Nat) (msg : Nat) (mlo : Nat) (moa : Nat) (mog : Nat) (mop : Nat) (mra : Nat) (nd : Nat) (kp : Int32) (mo : Int32) (ne : Int32) (gl : Int32) (ca : Int32) (no : Nat) (rs : Int32) (rw_ : Int32) (bc : Int32) (bo : Int32) (be : Int32) (da : Nat → Int32) (kf : Nat → Int32) (ra : Nat → Int32) (d : Nat) (pt : Nat) (x0 : Int32) (y0 : Int32) (hd4 : d < 4) (hpt : pt < 16) (hxy : cellB x0 y0 = true) (hda : da d = y0 * 8 + x0) (n_ : Nat) (x : Int32) (y : Int32) (j : Nat) (q : Bool) (tp : List Int32) (ra1 : Nat → Int32) (hj : j ≤ 8) (hfj : 9 ≤ j + (n_ + 1)) (hpo : poI x0 y0 (stX pt) (stY pt) x y j) (htp : tp.length ≤ j) (hra : raI tp ra1) (c_48 : q = true) (hwk : wkI kf (stX pt) (stY pt) x0 y0 true x y j tp) (c_57 : (cellB x y) = true) (hj8 : j < 8) (c_66 : ¬ (stX pt) = 2) (c_73 : ¬ (stX pt) = (-2)) (c_127 : (stY pt) = 2) (c_139 : (stX pt) = 0) : 0 = (b2i (sdB kf x y (stX pt) (stY pt))) := by clear hwk hpo hra hda hxy; simp_all [sdB, b2i]
theorem lf_X8_walk_5 (h0 : Nat) (mk : Nat) (mg : Nat) (mhb : Nat) (mdn : Nat) (mda : Nat) (mkp : Nat) (mbr : Nat) (msu : Nat) (msg : Nat) (mlo : Nat) (moa : Nat) (mog : Nat) (mop : Nat) (mra : Nat) (nd : Nat) (kp : Int32) (mo : Int32) (ne : Int32) (gl : Int32) (ca : Int32) (no : Nat) (rs : Int32) (rw_ : Int32) (bc : Int32) (bo : Int32) (be : Int32) (da : Nat → Int32) (kf : Nat → Int32) (ra : Nat → Int32) (d : Nat) (pt : Nat) (x0 : Int32) (y0 : Int32) (hd4 : d < 4) (hpt : pt < 16) (hxy : cellB x0 y0 = true) (hda : da d = y0 * 8 + x0) (n_ : Nat) (x : Int32) (y : Int32) (j : Nat) (q : Bool) (tp : List Int32) (ra1 : Nat → Int32) (hj : j ≤ 8) (hfj : 9 ≤ j + (n_ + 1)) (hpo : poI x0 y0 (stX pt) (stY pt) x y j) (htp : tp.length ≤ j) (hra : raI tp ra1) (c_48 : q = true) (hwk : wkI kf (stX pt) (stY pt) x0 y0 true x y j tp) (c_57 : (cellB x y) = true) (hj8 : j < 8) (c_66 : ¬ (stX pt) = 2) (c_73 : ¬ (stX pt) = (-2)) (c_127 : (stY pt) = 2) (c_139 : ¬ (stX pt) = 0) (c_154 : (wallB kf x (y + ((stY pt) / 2))) = false) : 0 = (b2i (sdB kf x y (stX pt) (stY pt))) := by clear hwk hpo hra hda hxy; simp_all [sdB, b2i]
theorem lf_X8_walk_6 (h0 : Nat) (mk : Nat) (mg : Nat) (mhb : Nat) (mdn : Nat) (mda : Nat) (mkp : Nat) (mbr : Nat) (msu : Nat) (msg : Nat) (mlo : Nat) (moa : Nat) (mog : Nat) (mop : Nat) (mra : Nat) (nd : Nat) (kp : Int32) (mo : Int32) (ne : Int32) (gl : Int32) (ca : Int32) (no : Nat) (rs : Int32) (rw_ : Int32) (bc : Int32) (bo : Int32) (be : Int32) (da : Nat → Int32) (kf : Nat → Int32) (ra : Nat → Int32) (d : Nat) (pt : Nat) (x0 : Int32) (y0 : Int32) (hd4 : d < 4) (hpt : pt < 16) (hxy : cellB x0 y0 = true) (hda : da d = y0 * 8 + x0) (n_ : Nat) (x : Int32) (y : Int32) (j : Nat) (q : Bool) (tp : List Int32) (ra1 : Nat → Int32) (hj : j ≤ 8) (hfj : 9 ≤ j + (n_ + 1)) (hpo : poI x0 y0 (stX pt) (stY pt) x y j) (htp : tp.length ≤ j) (hra : raI tp ra1) (c_48 : q = true) (hwk : wkI kf (stX pt) (stY pt) x0 y0 true x y j tp) (c_57 : (cellB x y) = true) (hj8 : j < 8) (c_66 : ¬ (stX pt) = 2) (c_73 : ¬ (stX pt) = (-2)) (c_127 : (stY pt) = 2) (c_139 : ¬ (stX pt) = 0) (c_154 : (wallB kf x (y + ((stY pt) / 2))) = true) (c_172 : (wallB kf (x + (stX pt)) (y + ((stY pt) / 2))) = false) : 0 = (b2i (sdB kf x y (stX pt) (stY pt))) := by clear hwk hpo hra hda hxy; simp_all [sdB, b2i]
theorem lf_X8_walk_7 (h0 : Nat) (mk : Nat) (mg : Nat) (mhb : Nat) (mdn : Nat) (mda : Nat) (mkp : Nat) (mbr : Nat) (msu : Nat) (msg : Nat) (mlo : Nat) (moa : Nat) (mog : Nat) (mop : Nat) (mra : Nat) (nd : Nat) (kp : Int32) (mo : Int32) (ne : Int32) (gl : Int32) (ca : Int32) (no : Nat) (rs : Int32) (rw_ : Int32) (bc : Int32) (bo : Int32) (be : Int32) (da : Nat → Int32) (kf : Nat → Int32) (ra : Nat → Int32) (d : Nat) (pt : Nat) (x0 : Int32) (y0 : Int32) (hd4 : d < 4) (hpt : pt < 16) (hxy : cellB x0 y0 = true) (hda : da d = y0 * 8 + x0) (n_ : Nat) (x : Int32) (y : Int32) (j : Nat) (q : Bool) (tp : List Int32) (ra1 : Nat → Int32) (hj : j ≤ 8) (hfj : 9 ≤ j + (n_ + 1)) (hpo : poI x0 y0 (stX pt) (stY pt) x y j) (htp : tp.length ≤ j) (hra : raI tp ra1) (c_48 : q = true) (hwk : wkI kf (stX pt) (stY pt) x0 y0 true x y j tp) (c_57 : (cellB x y) = true) (hj8 : j < 8) (c_66 : ¬ (stX pt) = 2) (c_73 : ¬ (stX pt) = (-2)) (c_127 : (stY pt) = 2) (c_139 : ¬ (stX pt) = 0) (c_154 : (wallB kf x (y + ((stY pt) / 2))) = true) (c_172 : (wallB kf (x + (stX pt)) (y + ((stY pt) / 2))) = true) : 1 = (b2i (sdB kf x y (stX pt) (stY pt))) := by clear hwk hpo hra hda hxy; simp_all [sdB, b2i]
theorem lf_X8_walk_8 (h0 : Nat) (mk : Nat) (mg : Nat) (mhb : Nat) (mdn : Nat) (mda : Nat) (mkp : Nat) (mbr : Nat) (msu : Nat) (msg : Nat) (mlo : Nat) (moa : Nat) (mog : Nat) (mop : Nat) (mra : Nat) (nd : Nat) (kp : Int32) (mo : Int32) (ne : Int32) (gl : Int32) (ca : Int32) (no : Nat) (rs : Int32) (rw_ : Int32) (bc : Int32) (bo : Int32) (be : Int32) (da : Nat → Int32) (kf : Nat → Int32) (ra : Nat → Int32) (d : Nat) (pt : Nat) (x0 : Int32) (y0 : Int32) (hd4 : d < 4) (hpt : pt < 16) (hxy : cellB x0 y0 = true) (hda : da d = y0 * 8 + x0) (n_ : Nat) (x : Int32) (y : Int32) (j : Nat) (q : Bool) (tp : List Int32) (ra1 : Nat → Int32) (hj : j ≤ 8) (hfj : 9 ≤ j + (n_ + 1)) (hpo : poI x0 y0 (stX pt) (stY pt) x y j) (htp : tp.length ≤ j) (hra : raI tp ra1) (c_48 : q = true) (hwk : wkI kf (stX pt) (stY pt) x0 y0 true x y j tp) (c_57 : (cellB x y) = true) (hj8 : j < 8) (c_66 : ¬ (stX pt) = 2) (c_73 : ¬ (stX pt) = (-2)) (c_127 : ¬ (stY pt) = 2) (c_134 : ¬ (stY pt) = (-2)) (c_187 : (stX pt) = 0) : 0 = (b2i (sdB kf x y (stX pt) (stY pt))) := by clear hwk hpo hra hda hxy; simp_all [sdB, b2i]
theorem lf_X8_walk_9 (h0 : Nat) (mk : Nat) (mg : Nat) (mhb : Nat) (mdn : Nat) (mda : Nat) (mkp : Nat) (mbr : Nat) (msu : Nat) (msg : Nat) (mlo : Nat) (moa : Nat) (mog : Nat) (mop : Nat) (mra : Nat) (nd : Nat) (kp : Int32) (mo : Int32) (ne : Int32) (gl : Int32) (ca : Int32) (no : Nat) (rs : Int32) (rw_ : Int32) (bc : Int32) (bo : Int32) (be : Int32) (da : Nat → Int32) (kf : Nat → Int32) (ra : Nat → Int32) (d : Nat) (pt : Nat) (x0 : Int32) (y0 : Int32) (hd4 : d < 4) (hpt : pt < 16) (hxy : cellB x0 y0 = true) (hda : da d = y0 * 8 + x0) (n_ : Nat) (x : Int32) (y : Int32) (j : Nat) (q : Bool) (tp : List Int32) (ra1 : Nat → Int32) (hj : j ≤ 8) (hfj : 9 ≤ j + (n_ + 1)) (hpo : poI x0 y0 (stX pt) (stY pt) x y j) (htp : tp.length ≤ j) (hra : raI tp ra1) (c_48 : q = true) (hwk : wkI kf (stX pt) (stY pt) x0 y0 true x y j tp) (c_57 : (cellB x y) = true) (hj8 : j < 8) (c_66 : ¬ (stX pt) = 2) (c_73 : ¬ (stX pt) = (-2)) (c_127 : ¬ (stY pt) = 2) (c_134 : ¬ (stY pt) = (-2)) (c_187 : ¬ (stX pt) = 0) (c_192 : (stY pt) = 0) : 0 = (b2i (sdB kf x y (stX pt) (stY pt))) := by clear hwk hpo hra hda hxy; simp_all [sdB, b2i]
theorem lf_X8_walk_10 (h0 : Nat) (mk : Nat) (mg : Nat) (mhb : Nat) (mdn : Nat) (mda : Nat) (mkp : Nat) (mbr : Nat) (msu : Nat) (msg : Nat) (mlo : Nat) (moa : Nat) (mog : Nat) (mop : Nat) (mra : Nat) (nd : Nat) (kp : Int32) (mo : Int32) (ne : Int32) (gl : Int32) (ca : Int32) (no : Nat) (rs : Int32) (rw_ : Int32) (bc : Int32) (bo : Int32) (be : Int32) (da : Nat → Int32) (kf : Nat → Int32) (ra : Nat → Int32) (d : Nat) (pt : Nat) (x0 : Int32) (y0 : Int32) (hd4 : d < 4) (hpt : pt < 16) (hxy : cellB x0 y0 = true) (hda : da d = y0 * 8 + x0) (n_ : Nat) (x : Int32) (y : Int32) (j : Nat) (q : Bool) (tp : List Int32) (ra1 : Nat → Int32) (hj : j ≤ 8) (hfj : 9 ≤ j + (n_ + 1)) (hpo : poI x0 y0 (stX pt) (stY pt) x y j) (htp : tp.length ≤ j) (hra : raI tp ra1) (c_48 : q = true) (hwk : wkI kf (stX pt) (stY pt) x0 y0 true x y j tp) (c_57 : (cellB x y) = true) (hj8 : j < 8) (c_66 : ¬ (stX pt) = 2) (c_73 : ¬ (stX pt) = (-2)) (c_127 : ¬ (stY pt) = 2) (c_134 : ¬ (stY pt) = (-2)) (c_187 : ¬ (stX pt) = 0) (c_192 : ¬ (stY pt) = 0) (c_205 : (wallB kf (x + (stX pt)) y) = false) : 0 = (b2i (sdB kf x y (stX pt) (stY pt))) := by clear hwk hpo hra hda hxy; simp_all [sdB, b2i]
theorem lf_X8_walk_11 (h0 : Nat) (mk : Nat) (mg : Nat) (mhb : Nat) (mdn : Nat) (mda : Nat) (mkp : Nat) (mbr : Nat) (msu : Nat) (msg : Nat) (mlo : Nat) (moa : Nat) (mog : Nat) (mop : Nat) (mra : Nat) (nd : Nat) (kp : Int32) (mo : Int32) (ne : Int32) (gl : Int32) (ca : Int32) (no : Nat) (rs : Int32) (rw_ : Int32) (bc : Int32) (bo : Int32) (be : Int32) (da : Nat → Int32) (kf : Nat → Int32) (ra : Nat → Int32) (d : Nat) (pt : Nat) (x0 : Int32) (y0 : Int32) (hd4 : d < 4) (hpt : pt < 16) (hxy : cellB x0 y0 = true) (hda : da d = y0 * 8 + x0) (n_ : Nat) (x : Int32) (y : Int32) (j : Nat) (q : Bool) (tp : List Int32) (ra1 : Nat → Int32) (hj : j ≤ 8) (hfj : 9 ≤ j + (n_ + 1)) (hpo : poI x0 y0 (stX pt) (stY pt) x y j) (htp : tp.length ≤ j) (hra : raI tp ra1) (c_48 : q = true) (hwk : wkI kf (stX pt) (stY pt) x0 y0 true x y j tp) (c_57 : (cellB x y) = true) (hj8 : j < 8) (c_66 : ¬ (stX pt) = 2) (c_73 : ¬ (stX pt) = (-2)) (c_127 : ¬ (stY pt) = 2) (c_134 : ¬ (stY pt) = (-2)) (c_187 : ¬ (stX pt) = 0) (c_192 : ¬ (stY pt) = 0) (c_205 : (wallB kf (x + (stX pt)) y) = true) (c_218 : (wallB kf x (y + (stY pt))) = false) : 0 = (b2i (sdB kf x y (stX pt) (stY pt))) := by clear hwk hpo hra hda hxy; simp_all [sdB, b2i]
theorem lf_X8_walk_12 (h0 : Nat) (mk : Nat) (mg : Nat) (mhb : Nat) (mdn : Nat) (mda : Nat) (mkp : Nat) (mbr : Nat) (msu : Nat) (msg : Nat) (mlo : Nat) (moa : Nat) (mog : Nat) (mop : Nat) (mra : Nat) (nd : Nat) (kp : Int32) (mo : Int32) (ne : Int32) (gl : Int32) (ca : Int32) (no : Nat) (rs : Int32) (rw_ : Int32) (bc : Int32) (bo : Int32) (be : Int32) (da : Nat → Int32) (kf : Nat → Int32) (ra : Nat → Int32) (d : Nat) (pt : Nat) (x0 : Int32) (y0 : Int32) (hd4 : d < 4) (hpt : pt < 16) (hxy : cellB x0 y0 = true) (hda : da d = y0 * 8 + x0) (n_ : Nat) (x : Int32) (y : Int32) (j : Nat) (q : Bool) (tp : List Int32) (ra1 : Nat → Int32) (hj : j ≤ 8) (hfj : 9 ≤ j + (n_ + 1)) (hpo : poI x0 y0 (stX pt) (stY pt) x y j) (htp : tp.length ≤ j) (hra : raI tp ra1) (c_48 : q = true) (hwk : wkI kf (stX pt) (stY pt) x0 y0 true x y j tp) (c_57 : (cellB x y) = true) (hj8 : j < 8) (c_66 : ¬ (stX pt) = 2) (c_73 : ¬ (stX pt) = (-2)) (c_127 : ¬ (stY pt) = 2) (c_134 : ¬ (stY pt) = (-2)) (c_187 : ¬ (stX pt) = 0) (c_192 : ¬ (stY pt) = 0) (c_205 : (wallB kf (x + (stX pt)) y) = true) (c_218 : (wallB kf x (y + (stY pt))) = true) : 1 = (b2i (sdB kf x y (stX pt) (stY pt))) := by clear hwk hpo hra hda hxy; simp_all [sdB, b2i]
theorem lf_X8_walk_13 (h0 : Nat) (mk : Nat) (mg : Nat) (mhb : Nat) (mdn : Nat) (mda : Nat) (mkp : Nat) (mbr : Nat) (msu : Nat) (msg : Nat) (mlo : Nat) (moa : Nat) (mog : Nat) (mop : Nat) (mra : Nat) (nd : Nat) (kp : Int32) (mo : Int32) (ne : Int32) (gl : Int32) (ca : Int32) (no : Nat) (rs : Int32) (rw_ : Int32) (bc : Int32) (bo : Int32) (be : Int32) (da : Nat → Int32) (kf : Nat → Int32) (ra : Nat → Int32) (d : Nat) (pt : Nat) (x0 : Int32) (y0 : Int32) (hd4 : d < 4) (hpt : pt < 16) (hxy : cellB x0 y0 = true) (hda : da d = y0 * 8 + x0) (n_ : Nat) (x : Int32) (y : Int32) (j : Nat) (q : Bool) (tp : List Int32) (ra1 : Nat → Int32) (hj : j ≤ 8) (hfj : 9 ≤ j + (n_ + 1)) (hpo : poI x0 y0 (stX pt) (stY pt) x y j) (htp : tp.length ≤ j) (hra : raI tp ra1) (c_48 : q = true) (hwk : wkI kf (stX pt) (stY pt) x0 y0 true x y j tp) (c_57 : (cellB x y) = true) (hj8 : j < 8) (c_66 : ¬ (stX pt) = 2) (c_73 : ¬ (stX pt) = (-2)) (c_127 : ¬ (stY pt) = 2) (c_134 : (stY pt) = (-2)) (c_139 : (stX pt) = 0) : 0 = (b2i (sdB kf x y (stX pt) (stY pt))) := by clear hwk hpo hra hda hxy; simp_all [sdB, b2i]
theorem lf_X8_walk_14 (h0 : Nat) (mk : Nat) (mg : Nat) (mhb : Nat) (mdn : Nat) (mda : Nat) (mkp : Nat) (mbr : Nat) (msu : Nat) (msg : Nat) (mlo : Nat) (moa : Nat) (mog : Nat) (mop : Nat) (mra : Nat) (nd : Nat) (kp : Int32) (mo : Int32) (ne : Int32) (gl : Int32) (ca : Int32) (no : Nat) (rs : Int32) (rw_ : Int32) (bc : Int32) (bo : Int32) (be : Int32) (da : Nat → Int32) (kf : Nat → Int32) (ra : Nat → Int32) (d : Nat) (pt : Nat) (x0 : Int32) (y0 : Int32) (hd4 : d < 4) (hpt : pt < 16) (hxy : cellB x0 y0 = true) (hda : da d = y0 * 8 + x0) (n_ : Nat) (x : Int32) (y : Int32) (j : Nat) (q : Bool) (tp : List Int32) (ra1 : Nat → Int32) (hj : j ≤ 8) (hfj : 9 ≤ j + (n_ + 1)) (hpo : poI x0 y0 (stX pt) (stY pt) x y j) (htp : tp.length ≤ j) (hra : raI tp ra1) (c_48 : q = true) (hwk : wkI kf (stX pt) (stY pt) x0 y0 true x y j tp) (c_57 : (cellB x y) = true) (hj8 : j < 8) (c_66 : ¬ (stX pt) = 2) (c_73 : ¬ (stX pt) = (-2)) (c_127 : ¬ (stY pt) = 2) (c_134 : (stY pt) = (-2)) (c_139 : ¬ (stX pt) = 0) (c_154 : (wallB kf x (y + ((stY pt) / 2))) = false) : 0 = (b2i (sdB kf x y (stX pt) (stY pt))) := by clear hwk hpo hra hda hxy; simp_all [sdB, b2i]
theorem lf_X8_walk_15 (h0 : Nat) (mk : Nat) (mg : Nat) (mhb : Nat) (mdn : Nat) (mda : Nat) (mkp : Nat) (mbr : Nat) (msu : Nat) (msg : Nat) (mlo : Nat) (moa : Nat) (mog : Nat) (mop : Nat) (mra : Nat) (nd : Nat) (kp : Int32) (mo : Int32) (ne : Int32) (gl : Int32) (ca : Int32) (no : Nat) (rs : Int32) (rw_ : Int32) (bc : Int32) (bo : Int32) (be : Int32) (da : Nat → Int32) (kf : Nat → Int32) (ra : Nat → Int32) (d : Nat) (pt : Nat) (x0 : Int32) (y0 : Int32) (hd4 : d < 4) (hpt : pt < 16) (hxy : cellB x0 y0 = true) (hda : da d = y0 * 8 + x0) (n_ : Nat) (x : Int32) (y : Int32) (j : Nat) (q : Bool) (tp : List Int32) (ra1 : Nat → Int32) (hj : j ≤ 8) (hfj : 9 ≤ j + (n_ + 1)) (hpo : poI x0 y0 (stX pt) (stY pt) x y j) (htp : tp.length ≤ j) (hra : raI tp ra1) (c_48 : q = true) (hwk : wkI kf (stX pt) (stY pt) x0 y0 true x y j tp) (c_57 : (cellB x y) = true) (hj8 : j < 8) (c_66 : ¬ (stX pt) = 2) (c_73 : ¬ (stX pt) = (-2)) (c_127 : ¬ (stY pt) = 2) (c_134 : (stY pt) = (-2)) (c_139 : ¬ (stX pt) = 0) (c_154 : (wallB kf x (y + ((stY pt) / 2))) = true) (c_172 : (wallB kf (x + (stX pt)) (y + ((stY pt) / 2))) = false) : 0 = (b2i (sdB kf x y (stX pt) (stY pt))) := by clear hwk hpo hra hda hxy; simp_all [sdB, b2i]
theorem lf_X8_walk_16 (h0 : Nat) (mk : Nat) (mg : Nat) (mhb : Nat) (mdn : Nat) (mda : Nat) (mkp : Nat) (mbr : Nat) (msu : Nat) (msg : Nat) (mlo : Nat) (moa : Nat) (mog : Nat) (mop : Nat) (mra : Nat) (nd : Nat) (kp : Int32) (mo : Int32) (ne : Int32) (gl : Int32) (ca : Int32) (no : Nat) (rs : Int32) (rw_ : Int32) (bc : Int32) (bo : Int32) (be : Int32) (da : Nat → Int32) (kf : Nat → Int32) (ra : Nat → Int32) (d : Nat) (pt : Nat) (x0 : Int32) (y0 : Int32) (hd4 : d < 4) (hpt : pt < 16) (hxy : cellB x0 y0 = true) (hda : da d = y0 * 8 + x0) (n_ : Nat) (x : Int32) (y : Int32) (j : Nat) (q : Bool) (tp : List Int32) (ra1 : Nat → Int32) (hj : j ≤ 8) (hfj : 9 ≤ j + (n_ + 1)) (hpo : poI x0 y0 (stX pt) (stY pt) x y j) (htp : tp.length ≤ j) (hra : raI tp ra1) (c_48 : q = true) (hwk : wkI kf (stX pt) (stY pt) x0 y0 true x y j tp) (c_57 : (cellB x y) = true) (hj8 : j < 8) (c_66 : ¬ (stX pt) = 2) (c_73 : ¬ (stX pt) = (-2)) (c_127 : ¬ (stY pt) = 2) (c_134 : (stY pt) = (-2)) (c_139 : ¬ (stX pt) = 0) (c_154 : (wallB kf x (y + ((stY pt) / 2))) = true) (c_172 : (wallB kf (x + (stX pt)) (y + ((stY pt) / 2))) = true) : 1 = (b2i (sdB kf x y (stX pt) (stY pt))) := by clear hwk hpo hra hda hxy; simp_all [sdB, b2i]
theorem lf_X8_walk_17 (h0 : Nat) (mk : Nat) (mg : Nat) (mhb : Nat) (mdn : Nat) (mda : Nat) (mkp : Nat) (mbr : Nat) (msu : Nat) (msg : Nat) (mlo : Nat) (moa : Nat) (mog : Nat) (mop : Nat) (mra : Nat) (nd : Nat) (kp : Int32) (mo : Int32) (ne : Int32) (gl : Int32) (ca : Int32) (no : Nat) (rs : Int32) (rw_ : Int32) (bc : Int32) (bo : Int32) (be : Int32) (da : Nat → Int32) (kf : Nat → Int32) (ra : Nat → Int32) (d : Nat) (pt : Nat) (x0 : Int32) (y0 : Int32) (hd4 : d < 4) (hpt : pt < 16) (hxy : cellB x0 y0 = true) (hda : da d = y0 * 8 + x0) (n_ : Nat) (x : Int32) (y : Int32) (j : Nat) (q : Bool) (tp : List Int32) (ra1 : Nat → Int32) (hj : j ≤ 8) (hfj : 9 ≤ j + (n_ + 1)) (hpo : poI x0 y0 (stX pt) (stY pt) x y j) (htp : tp.length ≤ j) (hra : raI tp ra1) (c_48 : q = true) (hwk : wkI kf (stX pt) (stY pt) x0 y0 true x y j tp) (c_57 : (cellB x y) = true) (hj8 : j < 8) (c_66 : ¬ (stX pt) = 2) (c_73 : (stX pt) = (-2)) (c_78 : (stY pt) = 0) : 0 = (b2i (sdB kf x y (stX pt) (stY pt))) := by clear hwk hpo hra hda hxy; simp_all [sdB, b2i]
theorem lf_X8_walk_18 (h0 : Nat) (mk : Nat) (mg : Nat) (mhb : Nat) (mdn : Nat) (mda : Nat) (mkp : Nat) (mbr : Nat) (msu : Nat) (msg : Nat) (mlo : Nat) (moa : Nat) (mog : Nat) (mop : Nat) (mra : Nat) (nd : Nat) (kp : Int32) (mo : Int32) (ne : Int32) (gl : Int32) (ca : Int32) (no : Nat) (rs : Int32) (rw_ : Int32) (bc : Int32) (bo : Int32) (be : Int32) (da : Nat → Int32) (kf : Nat → Int32) (ra : Nat → Int32) (d : Nat) (pt : Nat) (x0 : Int32) (y0 : Int32) (hd4 : d < 4) (hpt : pt < 16) (hxy : cellB x0 y0 = true) (hda : da d = y0 * 8 + x0) (n_ : Nat) (x : Int32) (y : Int32) (j : Nat) (q : Bool) (tp : List Int32) (ra1 : Nat → Int32) (hj : j ≤ 8) (hfj : 9 ≤ j + (n_ + 1)) (hpo : poI x0 y0 (stX pt) (stY pt) x y j) (htp : tp.length ≤ j) (hra : raI tp ra1) (c_48 : q = true) (hwk : wkI kf (stX pt) (stY pt) x0 y0 true x y j tp) (c_57 : (cellB x y) = true) (hj8 : j < 8) (c_66 : ¬ (stX pt) = 2) (c_73 : (stX pt) = (-2)) (c_78 : ¬ (stY pt) = 0) (c_93 : (wallB kf (x + ((stX pt) / 2)) y) = false) : 0 = (b2i (sdB kf x y (stX pt) (stY pt))) := by clear hwk hpo hra hda hxy; simp_all [sdB, b2i]
theorem lf_X8_walk_19 (h0 : Nat) (mk : Nat) (mg : Nat) (mhb : Nat) (mdn : Nat) (mda : Nat) (mkp : Nat) (mbr : Nat) (msu : Nat) (msg : Nat) (mlo : Nat) (moa : Nat) (mog : Nat) (mop : Nat) (mra : Nat) (nd : Nat) (kp : Int32) (mo : Int32) (ne : Int32) (gl : Int32) (ca : Int32) (no : Nat) (rs : Int32) (rw_ : Int32) (bc : Int32) (bo : Int32) (be : Int32) (da : Nat → Int32) (kf : Nat → Int32) (ra : Nat → Int32) (d : Nat) (pt : Nat) (x0 : Int32) (y0 : Int32) (hd4 : d < 4) (hpt : pt < 16) (hxy : cellB x0 y0 = true) (hda : da d = y0 * 8 + x0) (n_ : Nat) (x : Int32) (y : Int32) (j : Nat) (q : Bool) (tp : List Int32) (ra1 : Nat → Int32) (hj : j ≤ 8) (hfj : 9 ≤ j + (n_ + 1)) (hpo : poI x0 y0 (stX pt) (stY pt) x y j) (htp : tp.length ≤ j) (hra : raI tp ra1) (c_48 : q = true) (hwk : wkI kf (stX pt) (stY pt) x0 y0 true x y j tp) (c_57 : (cellB x y) = true) (hj8 : j < 8) (c_66 : ¬ (stX pt) = 2) (c_73 : (stX pt) = (-2)) (c_78 : ¬ (stY pt) = 0) (c_93 : (wallB kf (x + ((stX pt) / 2)) y) = true) (c_111 : (wallB kf (x + ((stX pt) / 2)) (y + (stY pt))) = false) : 0 = (b2i (sdB kf x y (stX pt) (stY pt))) := by clear hwk hpo hra hda hxy; simp_all [sdB, b2i]
theorem lf_X8_walk_20 (h0 : Nat) (mk : Nat) (mg : Nat) (mhb : Nat) (mdn : Nat) (mda : Nat) (mkp : Nat) (mbr : Nat) (msu : Nat) (msg : Nat) (mlo : Nat) (moa : Nat) (mog : Nat) (mop : Nat) (mra : Nat) (nd : Nat) (kp : Int32) (mo : Int32) (ne : Int32) (gl : Int32) (ca : Int32) (no : Nat) (rs : Int32) (rw_ : Int32) (bc : Int32) (bo : Int32) (be : Int32) (da : Nat → Int32) (kf : Nat → Int32) (ra : Nat → Int32) (d : Nat) (pt : Nat) (x0 : Int32) (y0 : Int32) (hd4 : d < 4) (hpt : pt < 16) (hxy : cellB x0 y0 = true) (hda : da d = y0 * 8 + x0) (n_ : Nat) (x : Int32) (y : Int32) (j : Nat) (q : Bool) (tp : List Int32) (ra1 : Nat → Int32) (hj : j ≤ 8) (hfj : 9 ≤ j + (n_ + 1)) (hpo : poI x0 y0 (stX pt) (stY pt) x y j) (htp : tp.length ≤ j) (hra : raI tp ra1) (c_48 : q = true) (hwk : wkI kf (stX pt) (stY pt) x0 y0 true x y j tp) (c_57 : (cellB x y) = true) (hj8 : j < 8) (c_66 : ¬ (stX pt) = 2) (c_73 : (stX pt) = (-2)) (c_78 : ¬ (stY pt) = 0) (c_93 : (wallB kf (x + ((stX pt) / 2)) y) = true) (c_111 : (wallB kf (x + ((stX pt) / 2)) (y + (stY pt))) = true) : 1 = (b2i (sdB kf x y (stX pt) (stY pt))) := by clear hwk hpo hra hda hxy; simp_all [sdB, b2i]
set_option maxHeartbeats 4000000 in
set_option maxRecDepth 100000 in
theorem c_X8_walk (ln : Launch) (G : gT) (h0 : Nat) (mk : Nat) (mg : Nat) (mhb : Nat) (mdn : Nat) (mda : Nat) (mkp : Nat) (mbr : Nat) (msu : Nat) (msg : Nat) (mlo : Nat) (moa : Nat) (mog : Nat) (mop : Nat) (mra : Nat) (nd : Nat) (kp : Int32) (mo : Int32) (ne : Int32) (gl : Int32) (ca : Int32) (no : Nat) (rs : Int32) (rw_ : Int32) (bc : Int32) (bo : Int32) (be : Int32) (da : Nat → Int32) (kf : Nat → Int32) (ra : Nat → Int32) (d : Nat) (pt : Nat) (x0 : Int32) (y0 : Int32) (sz : Nat) (hd4 : d < 4) (hpt : pt < 16) (hxy : cellB x0 y0 = true) (hda : da d = y0 * 8 + x0) : Met ln yX8_walk (wA (.code yX8_walk cX8_walk 9 (some .boolean))) ({ frames := 3, cells := 0, slots := 0, locals := 65 } : Room) (va_Pc [.ref h0, .int (nI d), .int (nI pt)] (rwB G [(h0, .inr (8, [.ref mk, .ref mg, .ref mhb, .ref mdn, .int (nI nd), .ref mda, .ref mkp, .int kp, .ref mbr, .ref msu, .ref msg, .ref mlo, .int mo, .int ne, .int gl, .int ca, .int (nI no), .ref moa, .ref mog, .ref mop, .int rs, .int rw_, .ref mra, .int bc, .int bo, .int be])), eI G mda 4 da, eI G mk 64 kf, eI G mra 8 ra] sz)) (va_Qi (S := Int32 × Int32 × (Nat → Int32)) (fun (r : Int32) (u : Int32 × Int32 × (Nat → Int32)) => r = b2i (rayR kf (stX pt) (stY pt) 8 x0 y0).isSome ∧ wkP (rayR kf (stX pt) (stY pt) 8 x0 y0) u.1 u.2.1 u.2.2) (fun u => wdB G (va_A [(h0, .inr (8, [.ref mk, .ref mg, .ref mhb, .ref mdn, .int (nI nd), .ref mda, .ref mkp, .int kp, .ref mbr, .ref msu, .ref msg, .ref mlo, .int mo, .int ne, .int gl, .int ca, .int (nI no), .ref moa, .ref mog, .ref mop, .int rs, .int rw_, .ref mra, .int bc, .int bo, .int be])), eI G mda 4 da, eI G mk 64 kf, eI G mra 8 ra] sz) [(h0, .inr (8, [.ref mk, .ref mg, .ref mhb, .ref mdn, .int (nI nd), .ref mda, .ref mkp, .int kp, .ref mbr, .ref msu, .ref msg, .ref mlo, .int mo, .int ne, .int gl, .int ca, .int (nI no), .ref moa, .ref mog, .ref mop, .int u.1, .int u.2.1, .ref mra, .int bc, .int bo, .int be])), eI G mda 4 da, eI G mk 64 kf, eI G mra 8 u.2.2]) (va_A [(h0, .inr (8, [.ref mk, .ref mg, .ref mhb, .ref mdn, .int (nI nd), .ref mda, .ref mkp, .int kp, .ref mbr, .ref msu, .ref msg, .ref mlo, .int mo, .int ne, .int gl, .int ca, .int (nI no), .ref moa, .ref mog, .ref mop, .int rs, .int rw_, .ref mra, .int bc, .int bo, .int be])), eI G mda 4 da, eI G mk 64 kf, eI G mra 8 ra] sz)) 0 0 (va_A [(h0, .inr (8, [.ref mk, .ref mg, .ref mhb, .ref mdn, .int (nI nd), .ref mda, .ref mkp, .int kp, .ref mbr, .ref msu, .ref msg, .ref mlo, .int mo, .int ne, .int gl, .int ca, .int (nI no), .ref moa, .ref mog, .ref mop, .int rs, .int rw_, .ref mra, .int bc, .int bo, .int be])), eI G mda 4 da, eI G mk 64 kf, eI G mra 8 ra] sz) := by
  refine Met.ofW (cc := cX8_walk) (maxL := 9) (ret := (some .boolean)) (by decide) rfl ?_
  intro pg ev s mi args below meth cd s₁ B hml hv
  obtain ⟨rfl, hsz, hP, hE, hD0, hT⟩ := hv
  have hx := B.exec
  have hb := B.bytes
  have hr := B.returns
  have hts0 := atoms_spec (ws := wA (.code yX8_walk cX8_walk 9 (some .boolean))) B.pre
  have hts : ∀ w ∈ wsA, w.before _ s = true := fun w h => hts0 w (List.mem_cons_of_mem _ h)
  have hown : s.vm.findClass RX8 = some mi.cls := findClass_of_methodNamed B.named
  have hlocks := B.notSynchronized
  subst hsz
  have hD := hD0.self (sz := s.heap.size)
  generalize hAe : va_A [(h0, .inr (8, [.ref mk, .ref mg, .ref mhb, .ref mdn, .int (nI nd), .ref mda, .ref mkp, .int kp, .ref mbr, .ref msu, .ref msg, .ref mlo, .int mo, .int ne, .int gl, .int ca, .int (nI no), .ref moa, .ref mog, .ref mop, .int rs, .int rw_, .ref mra, .int bc, .int bo, .int be])), eI G mda 4 da, eI G mk 64 kf, eI G mra 8 ra] s.heap.size = A at hD hT ⊢
  have hA : ∀ q : Nat, s.heap.size ≤ q → A q := fun q h => by rw [← hAe]; exact Or.inr h
  have hS : va_S A s.heap s.heap [] := va_S.rf
  have hl := lv_entry ([.ref h0, .int (nI d), .int (nI pt)]) (n := 9) (Nat.le_of_ble_eq_true rfl)
  rw [lg_entry_eq]
  generalize (lg_sl ([.ref h0, .int (nI d), .int (nI pt)]) ++ List.replicate (9 - (lg_sl ([.ref h0, .int (nI d), .int (nI pt)])).length) Slot.unset).toArray = ls at hl ⊢
  have hl : lv_has ls 9 [(0, .ref h0), (1, .int (nI d)), (2, .int (nI pt))] := hl
  refine lv_aload_n hx hb dX8_walk_0 rfl (lv_at hl 0 rfl) ?_
  refine va_get (ci := 8) (C := RX8) (T := TX8) (N := 26) hx hb hts hinX8 hown hE.1 hP 0 rfl rfl 5 (by decide) (hts _ kFl_X8_23) (fun _ h9 => h9) rfl dX8_walk_1 ?_
  refine lv_iload_n hx hb dX8_walk_4 rfl (lv_at hl 1 rfl) ?_
  refine ri_ald (j := d) hx hb hE hP 1 rfl (nI_clamp (by omega)) (vp_in_nI (by omega) (by omega)) dX8_walk_5 ?_
  refine lv_bipush (v := 8) hx hb dX8_walk_6 (by decide) ?_
  refine lv_irem hx hb dX8_walk_8 (by decide) ?_
  refine W.eq (g2 := F0 mi 9 ls (.int x0 :: [])) (by rw [show ((da d) - (da d) / 8 * 8) = x0 from (by rw [hda]; exact (rem8 hxy).1)]) ?_
  refine lv_istore_n (lv' := [(3, .int x0), (0, .ref h0), (1, .int (nI d)), (2, .int (nI pt))]) hx hb dX8_walk_9 rfl hl (by decide) rfl (fun ls hl => ?_)
  refine lv_aload_n hx hb dX8_walk_10 rfl (lv_at hl 1 rfl) ?_
  refine va_get (ci := 8) (C := RX8) (T := TX8) (N := 26) hx hb hts hinX8 hown hE.1 hP 0 rfl rfl 5 (by decide) (hts _ kFl_X8_23) (fun _ h9 => h9) rfl dX8_walk_11 ?_
  refine lv_iload_n hx hb dX8_walk_14 rfl (lv_at hl 2 rfl) ?_
  refine ri_ald (j := d) hx hb hE hP 1 rfl (nI_clamp (by omega)) (vp_in_nI (by omega) (by omega)) dX8_walk_15 ?_
  refine lv_bipush (v := 8) hx hb dX8_walk_16 (by decide) ?_
  refine lv_idiv hx hb dX8_walk_18 (by decide) ?_
  refine W.eq (g2 := F0 mi 19 ls (.int y0 :: [])) (by rw [show ((da d) / 8) = y0 from (by rw [hda]; exact (rem8 hxy).2)]) ?_
  refine lv_istore (lv' := [(4, .int y0), (3, .int x0), (0, .ref h0), (1, .int (nI d)), (2, .int (nI pt))]) hx hb dX8_walk_19 hl (by decide) rfl (fun ls hl => ?_)
  refine lv_iload_n hx hb dX8_walk_21 rfl (lv_at hl 4 rfl) ?_
  refine ca_Si (val := stX pt) (va_runS (As := [.int (nI pt)]) (rest := []) ⟨hx, hb, hml, hown, hts⟩ (c_X8_across ln pt (by omega)) (va_cwS 1 hts (gS kCode_X8_across kMl_X8_81 kSt_X8_across kIni_X8) rfl rfl rfl hd_X8_across ⟨Nat.le_of_ble_eq_true rfl, Nat.le_of_ble_eq_true rfl⟩) ⟨pu_blind, pu_pre⟩ rfl rfl hl.1 rfl (lv_room (Nat.le_of_ble_eq_true rfl)) dX8_walk_22 ⟨Nat.zero_le _, Nat.zero_le _⟩) ?_
  refine lv_istore (lv' := [(5, .int (stX pt)), (4, .int y0), (3, .int x0), (0, .ref h0), (1, .int (nI d)), (2, .int (nI pt))]) hx hb dX8_walk_25 hl (by decide) rfl (fun ls hl => ?_)
  refine lv_iload_n hx hb dX8_walk_27 rfl (lv_at hl 5 rfl) ?_
  refine ca_Si (val := stY pt) (va_runS (As := [.int (nI pt)]) (rest := []) ⟨hx, hb, hml, hown, hts⟩ (c_X8_along ln pt (by omega)) (va_cwS 1 hts (gS kCode_X8_along kMl_X8_85 kSt_X8_along kIni_X8) rfl rfl rfl hd_X8_along ⟨Nat.le_of_ble_eq_true rfl, Nat.le_of_ble_eq_true rfl⟩) ⟨pu_blind, pu_pre⟩ rfl rfl hl.1 rfl (lv_room (Nat.le_of_ble_eq_true rfl)) dX8_walk_28 ⟨Nat.zero_le _, Nat.zero_le _⟩) ?_
  refine lv_istore (lv' := [(6, .int (stY pt)), (5, .int (stX pt)), (4, .int y0), (3, .int x0), (0, .ref h0), (1, .int (nI d)), (2, .int (nI pt))]) hx hb dX8_walk_31 hl (by decide) rfl (fun ls hl => ?_)
  refine lv_aload_n hx hb dX8_walk_33 rfl (lv_at hl 4 rfl) ?_
  refine lv_iconst (v := 0) hx hb dX8_walk_34 (by decide) ?_
  refine va_put (ci := 8) (v := .int 0) (ty := .int) (C := RX8) (T := TX8) (N := 26) hx hb hts hinX8 tyX8 tyX8_ok nmX8 hown hE.1 hP hD hS 0 rfl rfl 20 (by decide) (hts _ kFl_X8_88) (fun _ h9 => h9) rfl (by decide +kernel) rfl rfl (Nat.le_of_ble_eq_true rfl) dX8_walk_35 (fun H locs hP hD hS => ?_)
  have hP : va_P G.1 vwCl [(h0, .inr (8, [.ref mk, .ref mg, .ref mhb, .ref mdn, .int (nI nd), .ref mda, .ref mkp, .int kp, .ref mbr, .ref msu, .ref msg, .ref mlo, .int mo, .int ne, .int gl, .int ca, .int (nI no), .ref moa, .ref mog, .ref mop, .int 0, .int rw_, .ref mra, .int bc, .int bo, .int be])), eI G mda 4 da, eI G mk 64 kf, eI G mra 8 ra] H := hP
  have hD : va_D A [(h0, .inr (8, [.ref mk, .ref mg, .ref mhb, .ref mdn, .int (nI nd), .ref mda, .ref mkp, .int kp, .ref mbr, .ref msu, .ref msg, .ref mlo, .int mo, .int ne, .int gl, .int ca, .int (nI no), .ref moa, .ref mog, .ref mop, .int 0, .int rw_, .ref mra, .int bc, .int bo, .int be])), eI G mda 4 da, eI G mk 64 kf, eI G mra 8 ra] := hD
  refine lv_aload_n hx hb dX8_walk_38 rfl (lv_at hl 4 rfl) ?_
  refine lv_iconst (v := 0) hx hb dX8_walk_39 (by decide) ?_
  refine va_put (ci := 8) (v := .int 0) (ty := .int) (C := RX8) (T := TX8) (N := 26) hx hb hts hinX8 tyX8 tyX8_ok nmX8 hown hE.1 hP hD hS 0 rfl rfl 21 (by decide) (hts _ kFl_X8_91) (fun _ h9 => h9) rfl (by decide +kernel) rfl rfl (Nat.le_of_ble_eq_true rfl) dX8_walk_40 (fun H locs hP hD hS => ?_)
  have hP : va_P G.1 vwCl [(h0, .inr (8, [.ref mk, .ref mg, .ref mhb, .ref mdn, .int (nI nd), .ref mda, .ref mkp, .int kp, .ref mbr, .ref msu, .ref msg, .ref mlo, .int mo, .int ne, .int gl, .int ca, .int (nI no), .ref moa, .ref mog, .ref mop, .int 0, .int 0, .ref mra, .int bc, .int bo, .int be])), eI G mda 4 da, eI G mk 64 kf, eI G mra 8 ra] H := hP
  have hD : va_D A [(h0, .inr (8, [.ref mk, .ref mg, .ref mhb, .ref mdn, .int (nI nd), .ref mda, .ref mkp, .int kp, .ref mbr, .ref msu, .ref msg, .ref mlo, .int mo, .int ne, .int gl, .int ca, .int (nI no), .ref moa, .ref mog, .ref mop, .int 0, .int 0, .ref mra, .int bc, .int bo, .int be])), eI G mda 4 da, eI G mk 64 kf, eI G mra 8 ra] := hD
  refine lv_iconst (v := 1) hx hb dX8_walk_43 (by decide) ?_
  refine lv_istore (lv' := [(7, .int 1), (6, .int (stY pt)), (5, .int (stX pt)), (4, .int y0), (3, .int x0), (0, .ref h0), (1, .int (nI d)), (2, .int (nI pt))]) hx hb dX8_walk_44 hl (by decide) rfl (fun ls hl => ?_)
  have J_46 : ∀ (n_ : Nat), ∀ (x : Int32) (y : Int32) (j : Nat) (q : Bool) (tp : List Int32) (ra1 : Nat → Int32), (j ≤ 8) → (9 ≤ j + n_) → (wkI kf (stX pt) (stY pt) x0 y0 q x y j tp) → (poI x0 y0 (stX pt) (stY pt) x y j) → (tp.length ≤ j) → (raI tp ra1) → ∀ (H : Heap) (locs : List Loc), va_P G.1 vwCl [(h0, .inr (8, [.ref mk, .ref mg, .ref mhb, .ref mdn, .int (nI nd), .ref mda, .ref mkp, .int kp, .ref mbr, .ref msu, .ref msg, .ref mlo, .int mo, .int ne, .int gl, .int ca, .int (nI no), .ref moa, .ref mog, .ref mop, .int (nI j), .int (nI tp.length), .ref mra, .int bc, .int bo, .int be])), eI G mda 4 da, eI G mk 64 kf, eI G mra 8 ra1] H → va_D A [(h0, .inr (8, [.ref mk, .ref mg, .ref mhb, .ref mdn, .int (nI nd), .ref mda, .ref mkp, .int kp, .ref mbr, .ref msu, .ref msg, .ref mlo, .int mo, .int ne, .int gl, .int ca, .int (nI no), .ref moa, .ref mog, .ref mop, .int (nI j), .int (nI tp.length), .ref mra, .int bc, .int bo, .int be])), eI G mda 4 da, eI G mk 64 kf, eI G mra 8 ra1] → va_S A s.heap H locs → ∀ (ls : Array Slot), lv_has ls 9 [(7, .int (b2i q)), (6, .int (stY pt)), (5, .int (stX pt)), (4, .int y), (3, .int x), (0, .ref h0), (1, .int (nI d)), (2, .int (nI pt))] → W pg ln ev ({ frames := 3, cells := 0, slots := 0, locals := 65 } : Room) s mi ([.ref h0, .int (nI d), .int (nI pt)] : List Value).toArray below meth cd H locs 0 0 (MQ below (va_Qi (S := Int32 × Int32 × (Nat → Int32)) (fun (r : Int32) (u : Int32 × Int32 × (Nat → Int32)) => r = b2i (rayR kf (stX pt) (stY pt) 8 x0 y0).isSome ∧ wkP (rayR kf (stX pt) (stY pt) 8 x0 y0) u.1 u.2.1 u.2.2) (fun u => wdB G A [(h0, .inr (8, [.ref mk, .ref mg, .ref mhb, .ref mdn, .int (nI nd), .ref mda, .ref mkp, .int kp, .ref mbr, .ref msu, .ref msg, .ref mlo, .int mo, .int ne, .int gl, .int ca, .int (nI no), .ref moa, .ref mog, .ref mop, .int u.1, .int u.2.1, .ref mra, .int bc, .int bo, .int be])), eI G mda 4 da, eI G mk 64 kf, eI G mra 8 u.2.2]) A) ([.ref h0, .int (nI d), .int (nI pt)] : List Value).toArray s 0 0 A) (F0 mi 46 ls []) := by
    intro n_
    induction n_ with
    | zero =>
      intro x y j q tp ra1 hj hfj hwk hpo htp hra H locs hP hD hS ls hl
      exact absurd hfj (by omega)
    | succ n_ ih_46 =>
      intro x y j q tp ra1 hj hfj hwk hpo htp hra H locs hP hD hS ls hl
      refine lv_iload hx hb dX8_walk_46 (lv_at hl 0 rfl) ?_
      refine lv_if_eq (tgt := 331) hx hb dX8_walk_48 (by decide) (fun c_48 => ?_) (fun c_48 => ?_)
      · skip
        have c_48 := b2i_z c_48
        have hwk : rayR kf (stX pt) (stY pt) 8 x0 y0 = none := by rw [c_48] at hwk; exact hwk
        refine lv_iload hx hb dX8_walk_331 (lv_at hl 0 rfl) ?_
        have hP9 := hP.sub (ws' := [(h0, .inr (8, [.ref mk, .ref mg, .ref mhb, .ref mdn, .int (nI nd), .ref mda, .ref mkp, .int kp, .ref mbr, .ref msu, .ref msg, .ref mlo, .int mo, .int ne, .int gl, .int ca, .int (nI no), .ref moa, .ref mog, .ref mop, .int (nI j), .int (nI tp.length), .ref mra, .int bc, .int bo, .int be])), eI G mda 4 da, eI G mk 64 kf, eI G mra 8 ra1]) [0, 1, 2, 3] rfl
        have hD9 := hD.sub (ws' := [(h0, .inr (8, [.ref mk, .ref mg, .ref mhb, .ref mdn, .int (nI nd), .ref mda, .ref mkp, .int kp, .ref mbr, .ref msu, .ref msg, .ref mlo, .int mo, .int ne, .int gl, .int ca, .int (nI no), .ref moa, .ref mog, .ref mop, .int (nI j), .int (nI tp.length), .ref mra, .int bc, .int bo, .int be])), eI G mda 4 da, eI G mk 64 kf, eI G mra 8 ra1]) [0, 1, 2, 3] (by decide) rfl
        exact W.zret (v := b2i q) hx hb hr (b2i_nar _) (fun t_ ht_ hW_ => ⟨⟨b2i q, (nI j, nI tp.length, ra1), rfl, ⟨by rw [c_48, hwk]; rfl, wkP_n hwk⟩, by rw [ht_]; exact hP9, hD9⟩, hS.F ht_⟩) hS.2.2 dX8_walk_333
      · skip
        have c_48 := b2i_n c_48
        have hwk : wkI kf (stX pt) (stY pt) x0 y0 true x y j tp := by rw [c_48] at hwk; exact hwk
        refine lv_iload_n hx hb dX8_walk_51 rfl (lv_at hl 4 rfl) ?_
        refine lv_iload hx hb dX8_walk_52 (lv_at hl 3 rfl) ?_
        refine ca_Si (val := b2i (cellB x y)) (va_runS (As := [.int x, .int y]) (rest := []) ⟨hx, hb, hml, hown, hts⟩ (c_X8_isCell ln x y ) (va_cwS 2 hts (gS kCode_X8_isCell kMl_X8_73 kSt_X8_isCell kIni_X8) rfl rfl rfl hd_X8_isCell ⟨Nat.le_of_ble_eq_true rfl, Nat.le_of_ble_eq_true rfl⟩) ⟨pu_blind, pu_pre⟩ rfl rfl hl.1 rfl (lv_room (Nat.le_of_ble_eq_true rfl)) dX8_walk_54 ⟨Nat.zero_le _, Nat.zero_le _⟩) ?_
        refine lv_if_eq (tgt := 331) hx hb dX8_walk_57 (by decide) (fun c_57 => ?_) (fun c_57 => ?_)
        · skip
          have c_57 := b2i_z c_57
          refine lv_iload hx hb dX8_walk_331 (lv_at hl 0 rfl) ?_
          have hP9 := hP.sub (ws' := [(h0, .inr (8, [.ref mk, .ref mg, .ref mhb, .ref mdn, .int (nI nd), .ref mda, .ref mkp, .int kp, .ref mbr, .ref msu, .ref msg, .ref mlo, .int mo, .int ne, .int gl, .int ca, .int (nI no), .ref moa, .ref mog, .ref mop, .int (nI j), .int (nI tp.length), .ref mra, .int bc, .int bo, .int be])), eI G mda 4 da, eI G mk 64 kf, eI G mra 8 ra1]) [0, 1, 2, 3] rfl
          have hD9 := hD.sub (ws' := [(h0, .inr (8, [.ref mk, .ref mg, .ref mhb, .ref mdn, .int (nI nd), .ref mda, .ref mkp, .int kp, .ref mbr, .ref msu, .ref msg, .ref mlo, .int mo, .int ne, .int gl, .int ca, .int (nI no), .ref moa, .ref mog, .ref mop, .int (nI j), .int (nI tp.length), .ref mra, .int bc, .int bo, .int be])), eI G mda 4 da, eI G mk 64 kf, eI G mra 8 ra1]) [0, 1, 2, 3] (by decide) rfl
          exact W.zret (v := b2i q) hx hb hr (b2i_nar _) (fun t_ ht_ hW_ => ⟨⟨b2i q, (nI j, nI tp.length, ra1), rfl, ⟨by rw [c_48, wk_end hwk c_57]; rfl, wkP_s (wk_end hwk c_57) hra⟩, by rw [ht_]; exact hP9, hD9⟩, hS.F ht_⟩) hS.2.2 dX8_walk_333
        · skip
          have c_57 := b2i_n c_57
          have hj8 : j < 8 := po_8 hpt hpo hxy c_57
          have J_228 : ∀ (H : Heap) (locs : List Loc), va_P G.1 vwCl [(h0, .inr (8, [.ref mk, .ref mg, .ref mhb, .ref mdn, .int (nI nd), .ref mda, .ref mkp, .int kp, .ref mbr, .ref msu, .ref msg, .ref mlo, .int mo, .int ne, .int gl, .int ca, .int (nI no), .ref moa, .ref mog, .ref mop, .int (nI j), .int (nI tp.length), .ref mra, .int bc, .int bo, .int be])), eI G mda 4 da, eI G mk 64 kf, eI G mra 8 ra1] H → va_D A [(h0, .inr (8, [.ref mk, .ref mg, .ref mhb, .ref mdn, .int (nI nd), .ref mda, .ref mkp, .int kp, .ref mbr, .ref msu, .ref msg, .ref mlo, .int mo, .int ne, .int gl, .int ca, .int (nI no), .ref moa, .ref mog, .ref mop, .int (nI j), .int (nI tp.length), .ref mra, .int bc, .int bo, .int be])), eI G mda 4 da, eI G mk 64 kf, eI G mra 8 ra1] → va_S A s.heap H locs → ∀ (ls : Array Slot), lv_has ls 9 [(7, .int (b2i q)), (6, .int (stY pt)), (5, .int (stX pt)), (4, .int y), (3, .int x), (0, .ref h0), (1, .int (nI d)), (2, .int (nI pt)), (8, .int (b2i (sdB kf x y (stX pt) (stY pt))))] → W pg ln ev ({ frames := 3, cells := 0, slots := 0, locals := 65 } : Room) s mi ([.ref h0, .int (nI d), .int (nI pt)] : List Value).toArray below meth cd H locs 0 0 (MQ below (va_Qi (S := Int32 × Int32 × (Nat → Int32)) (fun (r : Int32) (u : Int32 × Int32 × (Nat → Int32)) => r = b2i (rayR kf (stX pt) (stY pt) 8 x0 y0).isSome ∧ wkP (rayR kf (stX pt) (stY pt) 8 x0 y0) u.1 u.2.1 u.2.2) (fun u => wdB G A [(h0, .inr (8, [.ref mk, .ref mg, .ref mhb, .ref mdn, .int (nI nd), .ref mda, .ref mkp, .int kp, .ref mbr, .ref msu, .ref msg, .ref mlo, .int mo, .int ne, .int gl, .int ca, .int (nI no), .ref moa, .ref mog, .ref mop, .int u.1, .int u.2.1, .ref mra, .int bc, .int bo, .int be])), eI G mda 4 da, eI G mk 64 kf, eI G mra 8 u.2.2]) A) ([.ref h0, .int (nI d), .int (nI pt)] : List Value).toArray s 0 0 A) (F0 mi 228 ls []) := by
            intro  H locs hP hD hS ls hl
            refine lv_iload_n hx hb dX8_walk_228 rfl (lv_at hl 4 rfl) ?_
            refine lv_iload hx hb dX8_walk_229 (lv_at hl 2 rfl) ?_
            refine lv_iadd hx hb dX8_walk_231 ?_
            refine lv_istore_n (lv' := [(3, .int (x + (stX pt))), (7, .int (b2i q)), (6, .int (stY pt)), (5, .int (stX pt)), (4, .int y), (0, .ref h0), (1, .int (nI d)), (2, .int (nI pt)), (8, .int (b2i (sdB kf x y (stX pt) (stY pt))))]) hx hb dX8_walk_232 rfl hl (by decide) rfl (fun ls hl => ?_)
            refine lv_iload hx hb dX8_walk_233 (lv_at hl 4 rfl) ?_
            refine lv_iload hx hb dX8_walk_235 (lv_at hl 2 rfl) ?_
            refine lv_iadd hx hb dX8_walk_237 ?_
            refine lv_istore (lv' := [(4, .int (y + (stY pt))), (3, .int (x + (stX pt))), (7, .int (b2i q)), (6, .int (stY pt)), (5, .int (stX pt)), (0, .ref h0), (1, .int (nI d)), (2, .int (nI pt)), (8, .int (b2i (sdB kf x y (stX pt) (stY pt))))]) hx hb dX8_walk_238 hl (by decide) rfl (fun ls hl => ?_)
            refine lv_aload_n hx hb dX8_walk_240 rfl (lv_at hl 5 rfl) ?_
            refine lv_dup hx hb dX8_walk_241 rfl ?_
            refine va_get (ci := 8) (C := RX8) (T := TX8) (N := 26) hx hb hts hinX8 hown hE.1 hP 0 rfl rfl 20 (by decide) (hts _ kFl_X8_88) (fun _ h9 => h9) rfl dX8_walk_242 ?_
            refine lv_iconst (v := 1) hx hb dX8_walk_245 (by decide) ?_
            refine lv_iadd hx hb dX8_walk_246 ?_
            refine W.eq (congrArg (fun z => F0 mi 247 ls [.int z, .ref h0]) (nI_1 j)) ?_
            refine va_put (ci := 8) (v := .int (nI (j + 1))) (ty := .int) (C := RX8) (T := TX8) (N := 26) hx hb hts hinX8 tyX8 tyX8_ok nmX8 hown hE.1 hP hD hS 0 rfl rfl 20 (by decide) (hts _ kFl_X8_88) (fun _ h9 => h9) rfl (by decide +kernel) rfl rfl (Nat.le_of_ble_eq_true rfl) dX8_walk_247 (fun H locs hP hD hS => ?_)
            have hP : va_P G.1 vwCl [(h0, .inr (8, [.ref mk, .ref mg, .ref mhb, .ref mdn, .int (nI nd), .ref mda, .ref mkp, .int kp, .ref mbr, .ref msu, .ref msg, .ref mlo, .int mo, .int ne, .int gl, .int ca, .int (nI no), .ref moa, .ref mog, .ref mop, .int (nI (j + 1)), .int (nI tp.length), .ref mra, .int bc, .int bo, .int be])), eI G mda 4 da, eI G mk 64 kf, eI G mra 8 ra1] H := hP
            have hD : va_D A [(h0, .inr (8, [.ref mk, .ref mg, .ref mhb, .ref mdn, .int (nI nd), .ref mda, .ref mkp, .int kp, .ref mbr, .ref msu, .ref msg, .ref mlo, .int mo, .int ne, .int gl, .int ca, .int (nI no), .ref moa, .ref mog, .ref mop, .int (nI (j + 1)), .int (nI tp.length), .ref mra, .int bc, .int bo, .int be])), eI G mda 4 da, eI G mk 64 kf, eI G mra 8 ra1] := hD
            refine lv_iload hx hb dX8_walk_250 (lv_at hl 8 rfl) ?_
            refine lv_if_ne (tgt := 269) hx hb dX8_walk_252 (by decide) (fun c_252 => ?_) (fun c_252 => ?_)
            · skip
              have c_252 := b2i_n c_252
              refine lv_iconst (v := 0) hx hb dX8_walk_269 (by decide) ?_
              refine lv_istore (lv' := [(7, .int 0), (4, .int (y + (stY pt))), (3, .int (x + (stX pt))), (6, .int (stY pt)), (5, .int (stX pt)), (0, .ref h0), (1, .int (nI d)), (2, .int (nI pt)), (8, .int (b2i (sdB kf x y (stX pt) (stY pt))))]) hx hb dX8_walk_270 hl (by decide) rfl (fun ls hl => ?_)
              refine lv_iload hx hb dX8_walk_272 (lv_at hl 0 rfl) ?_
              refine lv_if_eq (tgt := 328) hx hb dX8_walk_274 (by decide) (fun c_274 => ?_) (fun c_274 => ?_)
              · skip
                refine lv_goto (tgt := 46) hx hb dX8_walk_328 (by decide) ?_
                have q9_1 : 0 = (b2i false) := rfl
                exact ih_46 (x + (stX pt)) (y + (stY pt)) (j + 1) false tp ra1 (by omega) (by omega) (wk_x hwk c_57 (Or.inl c_252)) (po_s hpt hpo c_57) (by omega) hra _ _ (hP.sub [0, 1, 2, 3] rfl) (hD.sub [0, 1, 2, 3] (by decide) rfl) hS ls (lv_cast (lv_sub hl [0, 3, 4, 1, 2, 5, 6, 7] rfl) (lcons (congrArg (fun z => (7, Value.int z)) q9_1) (lcons rfl (lcons rfl (lcons rfl (lcons rfl (lcons rfl (lcons rfl (lcons rfl rfl)))))))))
              · skip
                exact absurd c_274 (by decide)
            · skip
              have c_252 := b2i_z c_252
              refine lv_aload_n hx hb dX8_walk_255 rfl (lv_at hl 5 rfl) ?_
              refine lv_iload_n hx hb dX8_walk_256 rfl (lv_at hl 1 rfl) ?_
              refine lv_iload hx hb dX8_walk_257 (lv_at hl 0 rfl) ?_
              refine ca_Si (val := b2i (wallB kf (x + (stX pt)) (y + (stY pt)))) (va_runV (As := [.int (x + (stX pt)), .int (y + (stY pt))]) (rest := []) ⟨hx, hb, hml, hown, hts⟩ (c_X8_isWall ln G h0 mk mg mhb mdn mda mkp mbr msu msg mlo moa mog mop mra nd kp mo ne gl ca no (nI (j + 1)) (nI tp.length) bc bo be kf (x + (stX pt)) (y + (stY pt)) ) (cwV 2 hts (gV kCode_X8_isWall kMl_X8_94 kIm_X8_isWall kSel_X8_isWall kIni_X8) rfl rfl rfl ⟨rfl, hd_X8_isWall⟩ ⟨Nat.le_of_ble_eq_true rfl, Nat.le_of_ble_eq_true rfl⟩) ⟨ro_blind, va_recv hE.1 hP (ci := 8) (q0 := 0) rfl rfl, (ro_pre (hP.sub [0, 2] rfl) hS hE hT)⟩ rfl rfl hl.1 rfl (lv_room (Nat.le_of_ble_eq_true rfl)) dX8_walk_259 ⟨Nat.zero_le _, Nat.zero_le _⟩) ?_
              refine lv_if_ne (tgt := 269) hx hb dX8_walk_262 (by decide) (fun c_262 => ?_) (fun c_262 => ?_)
              · skip
                have c_262 := b2i_n c_262
                refine lv_iconst (v := 0) hx hb dX8_walk_269 (by decide) ?_
                refine lv_istore (lv' := [(7, .int 0), (4, .int (y + (stY pt))), (3, .int (x + (stX pt))), (6, .int (stY pt)), (5, .int (stX pt)), (0, .ref h0), (1, .int (nI d)), (2, .int (nI pt)), (8, .int (b2i (sdB kf x y (stX pt) (stY pt))))]) hx hb dX8_walk_270 hl (by decide) rfl (fun ls hl => ?_)
                refine lv_iload hx hb dX8_walk_272 (lv_at hl 0 rfl) ?_
                refine lv_if_eq (tgt := 328) hx hb dX8_walk_274 (by decide) (fun c_274 => ?_) (fun c_274 => ?_)
                · skip
                  refine lv_goto (tgt := 46) hx hb dX8_walk_328 (by decide) ?_
                  have q9_2 : 0 = (b2i false) := rfl
                  exact ih_46 (x + (stX pt)) (y + (stY pt)) (j + 1) false tp ra1 (by omega) (by omega) (wk_x hwk c_57 (Or.inr c_262)) (po_s hpt hpo c_57) (by omega) hra _ _ (hP.sub [0, 1, 2, 3] rfl) (hD.sub [0, 1, 2, 3] (by decide) rfl) hS ls (lv_cast (lv_sub hl [0, 3, 4, 1, 2, 5, 6, 7] rfl) (lcons (congrArg (fun z => (7, Value.int z)) q9_2) (lcons rfl (lcons rfl (lcons rfl (lcons rfl (lcons rfl (lcons rfl (lcons rfl rfl)))))))))
                · skip
                  exact absurd c_274 (by decide)
              · skip
                have c_262 := b2i_z c_262
                refine lv_iconst (v := 1) hx hb dX8_walk_265 (by decide) ?_
                refine lv_goto (tgt := 270) hx hb dX8_walk_266 (by decide) ?_
                refine lv_istore (lv' := [(7, .int 1), (4, .int (y + (stY pt))), (3, .int (x + (stX pt))), (6, .int (stY pt)), (5, .int (stX pt)), (0, .ref h0), (1, .int (nI d)), (2, .int (nI pt)), (8, .int (b2i (sdB kf x y (stX pt) (stY pt))))]) hx hb dX8_walk_270 hl (by decide) rfl (fun ls hl => ?_)
                refine lv_iload hx hb dX8_walk_272 (lv_at hl 0 rfl) ?_
                refine lv_if_eq (tgt := 328) hx hb dX8_walk_274 (by decide) (fun c_274 => ?_) (fun c_274 => ?_)
                · skip
                  exact absurd c_274 (by decide)
                · skip
                  refine lv_iload_n hx hb dX8_walk_277 rfl (lv_at hl 2 rfl) ?_
                  refine lv_iload hx hb dX8_walk_278 (lv_at hl 1 rfl) ?_
                  refine ca_Si (val := b2i (cellB (x + (stX pt)) (y + (stY pt)))) (va_runS (As := [.int (x + (stX pt)), .int (y + (stY pt))]) (rest := []) ⟨hx, hb, hml, hown, hts⟩ (c_X8_isCell ln (x + (stX pt)) (y + (stY pt)) ) (va_cwS 2 hts (gS kCode_X8_isCell kMl_X8_73 kSt_X8_isCell kIni_X8) rfl rfl rfl hd_X8_isCell ⟨Nat.le_of_ble_eq_true rfl, Nat.le_of_ble_eq_true rfl⟩) ⟨pu_blind, pu_pre⟩ rfl rfl hl.1 rfl (lv_room (Nat.le_of_ble_eq_true rfl)) dX8_walk_280 ⟨Nat.zero_le _, Nat.zero_le _⟩) ?_
                  refine lv_if_eq (tgt := 328) hx hb dX8_walk_283 (by decide) (fun c_283 => ?_) (fun c_283 => ?_)
                  · skip
                    have c_283 := b2i_z c_283
                    refine lv_goto (tgt := 46) hx hb dX8_walk_328 (by decide) ?_
                    have q9_3 : 1 = (b2i true) := rfl
                    exact ih_46 (x + (stX pt)) (y + (stY pt)) (j + 1) true tp ra1 (by omega) (by omega) (wk_f hwk hj8 c_57 c_252 c_262 (win_n c_283)) (po_s hpt hpo c_57) (by omega) hra _ _ (hP.sub [0, 1, 2, 3] rfl) (hD.sub [0, 1, 2, 3] (by decide) rfl) hS ls (lv_cast (lv_sub hl [0, 3, 4, 1, 2, 5, 6, 7] rfl) (lcons (congrArg (fun z => (7, Value.int z)) q9_3) (lcons rfl (lcons rfl (lcons rfl (lcons rfl (lcons rfl (lcons rfl (lcons rfl rfl)))))))))
                  · skip
                    have c_283 := b2i_n c_283
                    refine lv_aload_n hx hb dX8_walk_286 rfl (lv_at hl 5 rfl) ?_
                    refine va_get (ci := 8) (C := RX8) (T := TX8) (N := 26) hx hb hts hinX8 hown hE.1 hP 0 rfl rfl 0 (by decide) (hts _ kFl_X8_7) (fun _ h9 => h9) rfl dX8_walk_287 ?_
                    refine lv_bipush (v := 8) hx hb dX8_walk_290 (by decide) ?_
                    refine lv_iload hx hb dX8_walk_292 (lv_at hl 1 rfl) ?_
                    refine lv_imul hx hb dX8_walk_294 ?_
                    refine lv_iload_n hx hb dX8_walk_295 rfl (lv_at hl 2 rfl) ?_
                    refine lv_iadd hx hb dX8_walk_296 ?_
                    refine ri_ald (j := cn (x + stX pt) (y + stY pt)) hx hb hE hP 2 rfl (cn' _ _) (cn_in' c_283) dX8_walk_297 ?_
                    refine lv_iconst (v := 2) hx hb dX8_walk_298 (by decide) ?_
                    refine lv_icmp_ne (tgt := 328) hx hb dX8_walk_299 (by decide) (fun c_299 => ?_) (fun c_299 => ?_)
                    · skip
                      refine lv_goto (tgt := 46) hx hb dX8_walk_328 (by decide) ?_
                      have q9_4 : 1 = (b2i true) := rfl
                      exact ih_46 (x + (stX pt)) (y + (stY pt)) (j + 1) true tp ra1 (by omega) (by omega) (wk_f hwk hj8 c_57 c_252 c_262 (win_k c_299)) (po_s hpt hpo c_57) (by omega) hra _ _ (hP.sub [0, 1, 2, 3] rfl) (hD.sub [0, 1, 2, 3] (by decide) rfl) hS ls (lv_cast (lv_sub hl [0, 3, 4, 1, 2, 5, 6, 7] rfl) (lcons (congrArg (fun z => (7, Value.int z)) q9_4) (lcons rfl (lcons rfl (lcons rfl (lcons rfl (lcons rfl (lcons rfl (lcons rfl rfl)))))))))
                    · skip
                      refine lv_aload_n hx hb dX8_walk_302 rfl (lv_at hl 5 rfl) ?_
                      refine va_get (ci := 8) (C := RX8) (T := TX8) (N := 26) hx hb hts hinX8 hown hE.1 hP 0 rfl rfl 22 (by decide) (hts _ kFl_X8_63) (fun _ h9 => h9) rfl dX8_walk_303 ?_
                      refine lv_aload_n hx hb dX8_walk_306 rfl (lv_at hl 5 rfl) ?_
                      refine va_get (ci := 8) (C := RX8) (T := TX8) (N := 26) hx hb hts hinX8 hown hE.1 hP 0 rfl rfl 21 (by decide) (hts _ kFl_X8_91) (fun _ h9 => h9) rfl dX8_walk_307 ?_
                      refine lv_bipush (v := 8) hx hb dX8_walk_310 (by decide) ?_
                      refine lv_iload hx hb dX8_walk_312 (lv_at hl 1 rfl) ?_
                      refine lv_imul hx hb dX8_walk_314 ?_
                      refine lv_iload_n hx hb dX8_walk_315 rfl (lv_at hl 2 rfl) ?_
                      refine lv_iadd hx hb dX8_walk_316 ?_
                      refine W.eq (congrArg (fun z => F0 mi 317 ls [.int z, .int (nI tp.length), .ref mra]) (show 8 * (y + stY pt) + (x + stX pt) = (y + stY pt) * 8 + (x + stX pt) from by rw [Int32.mul_comm])) ?_
                      refine ri_ast (j := tp.length) hx hb hE hP hD hS 3 rfl (nI_clamp (by omega)) (vp_in_nI (by omega) (by omega)) dX8_walk_317 (fun H locs hP hD hS => ?_)
                      have hP : va_P G.1 vwCl [(h0, .inr (8, [.ref mk, .ref mg, .ref mhb, .ref mdn, .int (nI nd), .ref mda, .ref mkp, .int kp, .ref mbr, .ref msu, .ref msg, .ref mlo, .int mo, .int ne, .int gl, .int ca, .int (nI no), .ref moa, .ref mog, .ref mop, .int (nI (j + 1)), .int (nI tp.length), .ref mra, .int bc, .int bo, .int be])), eI G mda 4 da, eI G mk 64 kf, eI G mra 8 (upd ra1 tp.length ((y + stY pt) * 8 + (x + stX pt)))] H := hP
                      have hD : va_D A [(h0, .inr (8, [.ref mk, .ref mg, .ref mhb, .ref mdn, .int (nI nd), .ref mda, .ref mkp, .int kp, .ref mbr, .ref msu, .ref msg, .ref mlo, .int mo, .int ne, .int gl, .int ca, .int (nI no), .ref moa, .ref mog, .ref mop, .int (nI (j + 1)), .int (nI tp.length), .ref mra, .int bc, .int bo, .int be])), eI G mda 4 da, eI G mk 64 kf, eI G mra 8 (upd ra1 tp.length ((y + stY pt) * 8 + (x + stX pt)))] := hD
                      refine lv_aload_n hx hb dX8_walk_318 rfl (lv_at hl 5 rfl) ?_
                      refine lv_dup hx hb dX8_walk_319 rfl ?_
                      refine va_get (ci := 8) (C := RX8) (T := TX8) (N := 26) hx hb hts hinX8 hown hE.1 hP 0 rfl rfl 21 (by decide) (hts _ kFl_X8_91) (fun _ h9 => h9) rfl dX8_walk_320 ?_
                      refine lv_iconst (v := 1) hx hb dX8_walk_323 (by decide) ?_
                      refine lv_iadd hx hb dX8_walk_324 ?_
                      refine W.eq (congrArg (fun z => F0 mi 325 ls [.int z, .ref h0]) (show nI tp.length + 1 = nI (tp ++ [(y + stY pt) * 8 + (x + stX pt)]).length from by rw [List.length_append]; exact nI_1 _)) ?_
                      refine va_put (ci := 8) (v := .int (nI (tp ++ [(y + stY pt) * 8 + (x + stX pt)]).length)) (ty := .int) (C := RX8) (T := TX8) (N := 26) hx hb hts hinX8 tyX8 tyX8_ok nmX8 hown hE.1 hP hD hS 0 rfl rfl 21 (by decide) (hts _ kFl_X8_91) (fun _ h9 => h9) rfl (by decide +kernel) rfl rfl (Nat.le_of_ble_eq_true rfl) dX8_walk_325 (fun H locs hP hD hS => ?_)
                      have hP : va_P G.1 vwCl [(h0, .inr (8, [.ref mk, .ref mg, .ref mhb, .ref mdn, .int (nI nd), .ref mda, .ref mkp, .int kp, .ref mbr, .ref msu, .ref msg, .ref mlo, .int mo, .int ne, .int gl, .int ca, .int (nI no), .ref moa, .ref mog, .ref mop, .int (nI (j + 1)), .int (nI (tp ++ [(y + stY pt) * 8 + (x + stX pt)]).length), .ref mra, .int bc, .int bo, .int be])), eI G mda 4 da, eI G mk 64 kf, eI G mra 8 (upd ra1 tp.length ((y + stY pt) * 8 + (x + stX pt)))] H := hP
                      have hD : va_D A [(h0, .inr (8, [.ref mk, .ref mg, .ref mhb, .ref mdn, .int (nI nd), .ref mda, .ref mkp, .int kp, .ref mbr, .ref msu, .ref msg, .ref mlo, .int mo, .int ne, .int gl, .int ca, .int (nI no), .ref moa, .ref mog, .ref mop, .int (nI (j + 1)), .int (nI (tp ++ [(y + stY pt) * 8 + (x + stX pt)]).length), .ref mra, .int bc, .int bo, .int be])), eI G mda 4 da, eI G mk 64 kf, eI G mra 8 (upd ra1 tp.length ((y + stY pt) * 8 + (x + stX pt)))] := hD
                      refine lv_goto (tgt := 46) hx hb dX8_walk_328 (by decide) ?_
                      have q9_5 : 1 = (b2i true) := rfl
                      exact ih_46 (x + (stX pt)) (y + (stY pt)) (j + 1) true (tp ++ [(y + stY pt) * 8 + (x + stX pt)]) (upd ra1 tp.length ((y + stY pt) * 8 + (x + stX pt))) (by omega) (by omega) (wk_w hwk hj8 c_57 c_252 c_262 c_283 c_299) (po_s hpt hpo c_57) (len_s htp) (ra_s hra _) _ _ (hP.sub [0, 1, 2, 3] rfl) (hD.sub [0, 1, 2, 3] (by decide) rfl) hS ls (lv_cast (lv_sub hl [0, 3, 4, 1, 2, 5, 6, 7] rfl) (lcons (congrArg (fun z => (7, Value.int z)) q9_5) (lcons rfl (lcons rfl (lcons rfl (lcons rfl (lcons rfl (lcons rfl (lcons rfl rfl)))))))))
          refine lv_iconst (v := 0) hx hb dX8_walk_60 (by decide) ?_
          refine lv_istore (lv' := [(8, .int 0), (7, .int (b2i q)), (6, .int (stY pt)), (5, .int (stX pt)), (4, .int y), (3, .int x), (0, .ref h0), (1, .int (nI d)), (2, .int (nI pt))]) hx hb dX8_walk_61 hl (by decide) rfl (fun ls hl => ?_)
          refine lv_iload hx hb dX8_walk_63 (lv_at hl 3 rfl) ?_
          refine lv_iconst (v := 2) hx hb dX8_walk_65 (by decide) ?_
          refine lv_icmp_eq (tgt := 76) hx hb dX8_walk_66 (by decide) (fun c_66 => ?_) (fun c_66 => ?_)
          · skip
            refine lv_iload hx hb dX8_walk_76 (lv_at hl 2 rfl) ?_
            refine lv_if_eq (tgt := 118) hx hb dX8_walk_78 (by decide) (fun c_78 => ?_) (fun c_78 => ?_)
            · skip
              refine lv_iconst (v := 0) hx hb dX8_walk_118 (by decide) ?_
              refine lv_istore (lv' := [(8, .int 0), (7, .int (b2i q)), (6, .int (stY pt)), (5, .int (stX pt)), (4, .int y), (3, .int x), (0, .ref h0), (1, .int (nI d)), (2, .int (nI pt))]) hx hb dX8_walk_119 hl (by decide) rfl (fun ls hl => ?_)
              refine lv_goto (tgt := 228) hx hb dX8_walk_121 (by decide) ?_
              have q9_6 : 0 = (b2i (sdB kf x y (stX pt) (stY pt))) := (lf_X8_walk_0 h0 mk mg mhb mdn mda mkp mbr msu msg mlo moa mog mop mra nd kp mo ne gl ca no rs rw_ bc bo be da kf ra d pt x0 y0 hd4 hpt hxy hda n_ x y j q tp ra1 hj hfj hpo htp hra c_48 hwk c_57 hj8 c_66 c_78)
              exact J_228  _ _ (hP.sub [0, 1, 2, 3] rfl) (hD.sub [0, 1, 2, 3] (by decide) rfl) hS ls (lv_cast (lv_sub hl [1, 2, 3, 4, 5, 6, 7, 8, 0] rfl) (lcons rfl (lcons rfl (lcons rfl (lcons rfl (lcons rfl (lcons rfl (lcons rfl (lcons rfl (lcons (congrArg (fun z => (8, Value.int z)) q9_6) rfl))))))))))
            · skip
              refine lv_aload_n hx hb dX8_walk_81 rfl (lv_at hl 6 rfl) ?_
              refine lv_iload_n hx hb dX8_walk_82 rfl (lv_at hl 5 rfl) ?_
              refine lv_iload hx hb dX8_walk_83 (lv_at hl 3 rfl) ?_
              refine lv_iconst (v := 2) hx hb dX8_walk_85 (by decide) ?_
              refine lv_idiv hx hb dX8_walk_86 (by decide) ?_
              refine lv_iadd hx hb dX8_walk_87 ?_
              refine lv_iload hx hb dX8_walk_88 (lv_at hl 4 rfl) ?_
              refine ca_Si (val := b2i (wallB kf (x + ((stX pt) / 2)) y)) (va_runV (As := [.int (x + ((stX pt) / 2)), .int y]) (rest := []) ⟨hx, hb, hml, hown, hts⟩ (c_X8_isWall ln G h0 mk mg mhb mdn mda mkp mbr msu msg mlo moa mog mop mra nd kp mo ne gl ca no (nI j) (nI tp.length) bc bo be kf (x + ((stX pt) / 2)) y ) (cwV 2 hts (gV kCode_X8_isWall kMl_X8_94 kIm_X8_isWall kSel_X8_isWall kIni_X8) rfl rfl rfl ⟨rfl, hd_X8_isWall⟩ ⟨Nat.le_of_ble_eq_true rfl, Nat.le_of_ble_eq_true rfl⟩) ⟨ro_blind, va_recv hE.1 hP (ci := 8) (q0 := 0) rfl rfl, (ro_pre (hP.sub [0, 2] rfl) hS hE hT)⟩ rfl rfl hl.1 rfl (lv_room (Nat.le_of_ble_eq_true rfl)) dX8_walk_90 ⟨Nat.zero_le _, Nat.zero_le _⟩) ?_
              refine lv_if_eq (tgt := 118) hx hb dX8_walk_93 (by decide) (fun c_93 => ?_) (fun c_93 => ?_)
              · skip
                have c_93 := b2i_z c_93
                refine lv_iconst (v := 0) hx hb dX8_walk_118 (by decide) ?_
                refine lv_istore (lv' := [(8, .int 0), (7, .int (b2i q)), (6, .int (stY pt)), (5, .int (stX pt)), (4, .int y), (3, .int x), (0, .ref h0), (1, .int (nI d)), (2, .int (nI pt))]) hx hb dX8_walk_119 hl (by decide) rfl (fun ls hl => ?_)
                refine lv_goto (tgt := 228) hx hb dX8_walk_121 (by decide) ?_
                have q9_7 : 0 = (b2i (sdB kf x y (stX pt) (stY pt))) := (lf_X8_walk_1 h0 mk mg mhb mdn mda mkp mbr msu msg mlo moa mog mop mra nd kp mo ne gl ca no rs rw_ bc bo be da kf ra d pt x0 y0 hd4 hpt hxy hda n_ x y j q tp ra1 hj hfj hpo htp hra c_48 hwk c_57 hj8 c_66 c_78 c_93)
                exact J_228  _ _ (hP.sub [0, 1, 2, 3] rfl) (hD.sub [0, 1, 2, 3] (by decide) rfl) hS ls (lv_cast (lv_sub hl [1, 2, 3, 4, 5, 6, 7, 8, 0] rfl) (lcons rfl (lcons rfl (lcons rfl (lcons rfl (lcons rfl (lcons rfl (lcons rfl (lcons rfl (lcons (congrArg (fun z => (8, Value.int z)) q9_7) rfl))))))))))
              · skip
                have c_93 := b2i_n c_93
                refine lv_aload_n hx hb dX8_walk_96 rfl (lv_at hl 6 rfl) ?_
                refine lv_iload_n hx hb dX8_walk_97 rfl (lv_at hl 5 rfl) ?_
                refine lv_iload hx hb dX8_walk_98 (lv_at hl 3 rfl) ?_
                refine lv_iconst (v := 2) hx hb dX8_walk_100 (by decide) ?_
                refine lv_idiv hx hb dX8_walk_101 (by decide) ?_
                refine lv_iadd hx hb dX8_walk_102 ?_
                refine lv_iload hx hb dX8_walk_103 (lv_at hl 4 rfl) ?_
                refine lv_iload hx hb dX8_walk_105 (lv_at hl 2 rfl) ?_
                refine lv_iadd hx hb dX8_walk_107 ?_
                refine ca_Si (val := b2i (wallB kf (x + ((stX pt) / 2)) (y + (stY pt)))) (va_runV (As := [.int (x + ((stX pt) / 2)), .int (y + (stY pt))]) (rest := []) ⟨hx, hb, hml, hown, hts⟩ (c_X8_isWall ln G h0 mk mg mhb mdn mda mkp mbr msu msg mlo moa mog mop mra nd kp mo ne gl ca no (nI j) (nI tp.length) bc bo be kf (x + ((stX pt) / 2)) (y + (stY pt)) ) (cwV 2 hts (gV kCode_X8_isWall kMl_X8_94 kIm_X8_isWall kSel_X8_isWall kIni_X8) rfl rfl rfl ⟨rfl, hd_X8_isWall⟩ ⟨Nat.le_of_ble_eq_true rfl, Nat.le_of_ble_eq_true rfl⟩) ⟨ro_blind, va_recv hE.1 hP (ci := 8) (q0 := 0) rfl rfl, (ro_pre (hP.sub [0, 2] rfl) hS hE hT)⟩ rfl rfl hl.1 rfl (lv_room (Nat.le_of_ble_eq_true rfl)) dX8_walk_108 ⟨Nat.zero_le _, Nat.zero_le _⟩) ?_
                refine lv_if_eq (tgt := 118) hx hb dX8_walk_111 (by decide) (fun c_111 => ?_) (fun c_111 => ?_)
                · skip
                  have c_111 := b2i_z c_111
                  refine lv_iconst (v := 0) hx hb dX8_walk_118 (by decide) ?_
                  refine lv_istore (lv' := [(8, .int 0), (7, .int (b2i q)), (6, .int (stY pt)), (5, .int (stX pt)), (4, .int y), (3, .int x), (0, .ref h0), (1, .int (nI d)), (2, .int (nI pt))]) hx hb dX8_walk_119 hl (by decide) rfl (fun ls hl => ?_)
                  refine lv_goto (tgt := 228) hx hb dX8_walk_121 (by decide) ?_
                  have q9_8 : 0 = (b2i (sdB kf x y (stX pt) (stY pt))) := (lf_X8_walk_2 h0 mk mg mhb mdn mda mkp mbr msu msg mlo moa mog mop mra nd kp mo ne gl ca no rs rw_ bc bo be da kf ra d pt x0 y0 hd4 hpt hxy hda n_ x y j q tp ra1 hj hfj hpo htp hra c_48 hwk c_57 hj8 c_66 c_78 c_93 c_111)
                  exact J_228  _ _ (hP.sub [0, 1, 2, 3] rfl) (hD.sub [0, 1, 2, 3] (by decide) rfl) hS ls (lv_cast (lv_sub hl [1, 2, 3, 4, 5, 6, 7, 8, 0] rfl) (lcons rfl (lcons rfl (lcons rfl (lcons rfl (lcons rfl (lcons rfl (lcons rfl (lcons rfl (lcons (congrArg (fun z => (8, Value.int z)) q9_8) rfl))))))))))
                · skip
                  have c_111 := b2i_n c_111
                  refine lv_iconst (v := 1) hx hb dX8_walk_114 (by decide) ?_
                  refine lv_goto (tgt := 119) hx hb dX8_walk_115 (by decide) ?_
                  refine lv_istore (lv' := [(8, .int 1), (7, .int (b2i q)), (6, .int (stY pt)), (5, .int (stX pt)), (4, .int y), (3, .int x), (0, .ref h0), (1, .int (nI d)), (2, .int (nI pt))]) hx hb dX8_walk_119 hl (by decide) rfl (fun ls hl => ?_)
                  refine lv_goto (tgt := 228) hx hb dX8_walk_121 (by decide) ?_
                  have q9_9 : 1 = (b2i (sdB kf x y (stX pt) (stY pt))) := (lf_X8_walk_3 h0 mk mg mhb mdn mda mkp mbr msu msg mlo moa mog mop mra nd kp mo ne gl ca no rs rw_ bc bo be da kf ra d pt x0 y0 hd4 hpt hxy hda n_ x y j q tp ra1 hj hfj hpo htp hra c_48 hwk c_57 hj8 c_66 c_78 c_93 c_111)
                  exact J_228  _ _ (hP.sub [0, 1, 2, 3] rfl) (hD.sub [0, 1, 2, 3] (by decide) rfl) hS ls (lv_cast (lv_sub hl [1, 2, 3, 4, 5, 6, 7, 8, 0] rfl) (lcons rfl (lcons rfl (lcons rfl (lcons rfl (lcons rfl (lcons rfl (lcons rfl (lcons rfl (lcons (congrArg (fun z => (8, Value.int z)) q9_9) rfl))))))))))
          · skip
            refine lv_iload hx hb dX8_walk_69 (lv_at hl 3 rfl) ?_
            refine lv_bipush (v := -2) hx hb dX8_walk_71 (by decide) ?_
            refine lv_icmp_ne (tgt := 124) hx hb dX8_walk_73 (by decide) (fun c_73 => ?_) (fun c_73 => ?_)
            · skip
              refine lv_iload hx hb dX8_walk_124 (lv_at hl 2 rfl) ?_
              refine lv_iconst (v := 2) hx hb dX8_walk_126 (by decide) ?_
              refine lv_icmp_eq (tgt := 137) hx hb dX8_walk_127 (by decide) (fun c_127 => ?_) (fun c_127 => ?_)
              · skip
                refine lv_iload hx hb dX8_walk_137 (lv_at hl 3 rfl) ?_
                refine lv_if_eq (tgt := 179) hx hb dX8_walk_139 (by decide) (fun c_139 => ?_) (fun c_139 => ?_)
                · skip
                  refine lv_iconst (v := 0) hx hb dX8_walk_179 (by decide) ?_
                  refine lv_istore (lv' := [(8, .int 0), (7, .int (b2i q)), (6, .int (stY pt)), (5, .int (stX pt)), (4, .int y), (3, .int x), (0, .ref h0), (1, .int (nI d)), (2, .int (nI pt))]) hx hb dX8_walk_180 hl (by decide) rfl (fun ls hl => ?_)
                  refine lv_goto (tgt := 228) hx hb dX8_walk_182 (by decide) ?_
                  have q9_10 : 0 = (b2i (sdB kf x y (stX pt) (stY pt))) := (lf_X8_walk_4 h0 mk mg mhb mdn mda mkp mbr msu msg mlo moa mog mop mra nd kp mo ne gl ca no rs rw_ bc bo be da kf ra d pt x0 y0 hd4 hpt hxy hda n_ x y j q tp ra1 hj hfj hpo htp hra c_48 hwk c_57 hj8 c_66 c_73 c_127 c_139)
                  exact J_228  _ _ (hP.sub [0, 1, 2, 3] rfl) (hD.sub [0, 1, 2, 3] (by decide) rfl) hS ls (lv_cast (lv_sub hl [1, 2, 3, 4, 5, 6, 7, 8, 0] rfl) (lcons rfl (lcons rfl (lcons rfl (lcons rfl (lcons rfl (lcons rfl (lcons rfl (lcons rfl (lcons (congrArg (fun z => (8, Value.int z)) q9_10) rfl))))))))))
                · skip
                  refine lv_aload_n hx hb dX8_walk_142 rfl (lv_at hl 6 rfl) ?_
                  refine lv_iload_n hx hb dX8_walk_143 rfl (lv_at hl 5 rfl) ?_
                  refine lv_iload hx hb dX8_walk_144 (lv_at hl 4 rfl) ?_
                  refine lv_iload hx hb dX8_walk_146 (lv_at hl 2 rfl) ?_
                  refine lv_iconst (v := 2) hx hb dX8_walk_148 (by decide) ?_
                  refine lv_idiv hx hb dX8_walk_149 (by decide) ?_
                  refine lv_iadd hx hb dX8_walk_150 ?_
                  refine ca_Si (val := b2i (wallB kf x (y + ((stY pt) / 2)))) (va_runV (As := [.int x, .int (y + ((stY pt) / 2))]) (rest := []) ⟨hx, hb, hml, hown, hts⟩ (c_X8_isWall ln G h0 mk mg mhb mdn mda mkp mbr msu msg mlo moa mog mop mra nd kp mo ne gl ca no (nI j) (nI tp.length) bc bo be kf x (y + ((stY pt) / 2)) ) (cwV 2 hts (gV kCode_X8_isWall kMl_X8_94 kIm_X8_isWall kSel_X8_isWall kIni_X8) rfl rfl rfl ⟨rfl, hd_X8_isWall⟩ ⟨Nat.le_of_ble_eq_true rfl, Nat.le_of_ble_eq_true rfl⟩) ⟨ro_blind, va_recv hE.1 hP (ci := 8) (q0 := 0) rfl rfl, (ro_pre (hP.sub [0, 2] rfl) hS hE hT)⟩ rfl rfl hl.1 rfl (lv_room (Nat.le_of_ble_eq_true rfl)) dX8_walk_151 ⟨Nat.zero_le _, Nat.zero_le _⟩) ?_
                  refine lv_if_eq (tgt := 179) hx hb dX8_walk_154 (by decide) (fun c_154 => ?_) (fun c_154 => ?_)
                  · skip
                    have c_154 := b2i_z c_154
                    refine lv_iconst (v := 0) hx hb dX8_walk_179 (by decide) ?_
                    refine lv_istore (lv' := [(8, .int 0), (7, .int (b2i q)), (6, .int (stY pt)), (5, .int (stX pt)), (4, .int y), (3, .int x), (0, .ref h0), (1, .int (nI d)), (2, .int (nI pt))]) hx hb dX8_walk_180 hl (by decide) rfl (fun ls hl => ?_)
                    refine lv_goto (tgt := 228) hx hb dX8_walk_182 (by decide) ?_
                    have q9_11 : 0 = (b2i (sdB kf x y (stX pt) (stY pt))) := (lf_X8_walk_5 h0 mk mg mhb mdn mda mkp mbr msu msg mlo moa mog mop mra nd kp mo ne gl ca no rs rw_ bc bo be da kf ra d pt x0 y0 hd4 hpt hxy hda n_ x y j q tp ra1 hj hfj hpo htp hra c_48 hwk c_57 hj8 c_66 c_73 c_127 c_139 c_154)
                    exact J_228  _ _ (hP.sub [0, 1, 2, 3] rfl) (hD.sub [0, 1, 2, 3] (by decide) rfl) hS ls (lv_cast (lv_sub hl [1, 2, 3, 4, 5, 6, 7, 8, 0] rfl) (lcons rfl (lcons rfl (lcons rfl (lcons rfl (lcons rfl (lcons rfl (lcons rfl (lcons rfl (lcons (congrArg (fun z => (8, Value.int z)) q9_11) rfl))))))))))
                  · skip
                    have c_154 := b2i_n c_154
                    refine lv_aload_n hx hb dX8_walk_157 rfl (lv_at hl 6 rfl) ?_
                    refine lv_iload_n hx hb dX8_walk_158 rfl (lv_at hl 5 rfl) ?_
                    refine lv_iload hx hb dX8_walk_159 (lv_at hl 3 rfl) ?_
                    refine lv_iadd hx hb dX8_walk_161 ?_
                    refine lv_iload hx hb dX8_walk_162 (lv_at hl 4 rfl) ?_
                    refine lv_iload hx hb dX8_walk_164 (lv_at hl 2 rfl) ?_
                    refine lv_iconst (v := 2) hx hb dX8_walk_166 (by decide) ?_
                    refine lv_idiv hx hb dX8_walk_167 (by decide) ?_
                    refine lv_iadd hx hb dX8_walk_168 ?_
                    refine ca_Si (val := b2i (wallB kf (x + (stX pt)) (y + ((stY pt) / 2)))) (va_runV (As := [.int (x + (stX pt)), .int (y + ((stY pt) / 2))]) (rest := []) ⟨hx, hb, hml, hown, hts⟩ (c_X8_isWall ln G h0 mk mg mhb mdn mda mkp mbr msu msg mlo moa mog mop mra nd kp mo ne gl ca no (nI j) (nI tp.length) bc bo be kf (x + (stX pt)) (y + ((stY pt) / 2)) ) (cwV 2 hts (gV kCode_X8_isWall kMl_X8_94 kIm_X8_isWall kSel_X8_isWall kIni_X8) rfl rfl rfl ⟨rfl, hd_X8_isWall⟩ ⟨Nat.le_of_ble_eq_true rfl, Nat.le_of_ble_eq_true rfl⟩) ⟨ro_blind, va_recv hE.1 hP (ci := 8) (q0 := 0) rfl rfl, (ro_pre (hP.sub [0, 2] rfl) hS hE hT)⟩ rfl rfl hl.1 rfl (lv_room (Nat.le_of_ble_eq_true rfl)) dX8_walk_169 ⟨Nat.zero_le _, Nat.zero_le _⟩) ?_
                    refine lv_if_eq (tgt := 179) hx hb dX8_walk_172 (by decide) (fun c_172 => ?_) (fun c_172 => ?_)
                    · skip
                      have c_172 := b2i_z c_172
                      refine lv_iconst (v := 0) hx hb dX8_walk_179 (by decide) ?_
                      refine lv_istore (lv' := [(8, .int 0), (7, .int (b2i q)), (6, .int (stY pt)), (5, .int (stX pt)), (4, .int y), (3, .int x), (0, .ref h0), (1, .int (nI d)), (2, .int (nI pt))]) hx hb dX8_walk_180 hl (by decide) rfl (fun ls hl => ?_)
                      refine lv_goto (tgt := 228) hx hb dX8_walk_182 (by decide) ?_
                      have q9_12 : 0 = (b2i (sdB kf x y (stX pt) (stY pt))) := (lf_X8_walk_6 h0 mk mg mhb mdn mda mkp mbr msu msg mlo moa mog mop mra nd kp mo ne gl ca no rs rw_ bc bo be da kf ra d pt x0 y0 hd4 hpt hxy hda n_ x y j q tp ra1 hj hfj hpo htp hra c_48 hwk c_57 hj8 c_66 c_73 c_127 c_139 c_154 c_172)
                      exact J_228  _ _ (hP.sub [0, 1, 2, 3] rfl) (hD.sub [0, 1, 2, 3] (by decide) rfl) hS ls (lv_cast (lv_sub hl [1, 2, 3, 4, 5, 6, 7, 8, 0] rfl) (lcons rfl (lcons rfl (lcons rfl (lcons rfl (lcons rfl (lcons rfl (lcons rfl (lcons rfl (lcons (congrArg (fun z => (8, Value.int z)) q9_12) rfl))))))))))
                    · skip
                      have c_172 := b2i_n c_172
                      refine lv_iconst (v := 1) hx hb dX8_walk_175 (by decide) ?_
                      refine lv_goto (tgt := 180) hx hb dX8_walk_176 (by decide) ?_
                      refine lv_istore (lv' := [(8, .int 1), (7, .int (b2i q)), (6, .int (stY pt)), (5, .int (stX pt)), (4, .int y), (3, .int x), (0, .ref h0), (1, .int (nI d)), (2, .int (nI pt))]) hx hb dX8_walk_180 hl (by decide) rfl (fun ls hl => ?_)
                      refine lv_goto (tgt := 228) hx hb dX8_walk_182 (by decide) ?_
                      have q9_13 : 1 = (b2i (sdB kf x y (stX pt) (stY pt))) := (lf_X8_walk_7 h0 mk mg mhb mdn mda mkp mbr msu msg mlo moa mog mop mra nd kp mo ne gl ca no rs rw_ bc bo be da kf ra d pt x0 y0 hd4 hpt hxy hda n_ x y j q tp ra1 hj hfj hpo htp hra c_48 hwk c_57 hj8 c_66 c_73 c_127 c_139 c_154 c_172)
                      exact J_228  _ _ (hP.sub [0, 1, 2, 3] rfl) (hD.sub [0, 1, 2, 3] (by decide) rfl) hS ls (lv_cast (lv_sub hl [1, 2, 3, 4, 5, 6, 7, 8, 0] rfl) (lcons rfl (lcons rfl (lcons rfl (lcons rfl (lcons rfl (lcons rfl (lcons rfl (lcons rfl (lcons (congrArg (fun z => (8, Value.int z)) q9_13) rfl))))))))))
              · skip
                refine lv_iload hx hb dX8_walk_130 (lv_at hl 2 rfl) ?_
                refine lv_bipush (v := -2) hx hb dX8_walk_132 (by decide) ?_
                refine lv_icmp_ne (tgt := 185) hx hb dX8_walk_134 (by decide) (fun c_134 => ?_) (fun c_134 => ?_)
                · skip
                  refine lv_iload hx hb dX8_walk_185 (lv_at hl 3 rfl) ?_
                  refine lv_if_eq (tgt := 228) hx hb dX8_walk_187 (by decide) (fun c_187 => ?_) (fun c_187 => ?_)
                  · skip
                    have q9_14 : 0 = (b2i (sdB kf x y (stX pt) (stY pt))) := (lf_X8_walk_8 h0 mk mg mhb mdn mda mkp mbr msu msg mlo moa mog mop mra nd kp mo ne gl ca no rs rw_ bc bo be da kf ra d pt x0 y0 hd4 hpt hxy hda n_ x y j q tp ra1 hj hfj hpo htp hra c_48 hwk c_57 hj8 c_66 c_73 c_127 c_134 c_187)
                    exact J_228  _ _ (hP.sub [0, 1, 2, 3] rfl) (hD.sub [0, 1, 2, 3] (by decide) rfl) hS ls (lv_cast (lv_sub hl [1, 2, 3, 4, 5, 6, 7, 8, 0] rfl) (lcons rfl (lcons rfl (lcons rfl (lcons rfl (lcons rfl (lcons rfl (lcons rfl (lcons rfl (lcons (congrArg (fun z => (8, Value.int z)) q9_14) rfl))))))))))
                  · skip
                    refine lv_iload hx hb dX8_walk_190 (lv_at hl 2 rfl) ?_
                    refine lv_if_eq (tgt := 228) hx hb dX8_walk_192 (by decide) (fun c_192 => ?_) (fun c_192 => ?_)
                    · skip
                      have q9_15 : 0 = (b2i (sdB kf x y (stX pt) (stY pt))) := (lf_X8_walk_9 h0 mk mg mhb mdn mda mkp mbr msu msg mlo moa mog mop mra nd kp mo ne gl ca no rs rw_ bc bo be da kf ra d pt x0 y0 hd4 hpt hxy hda n_ x y j q tp ra1 hj hfj hpo htp hra c_48 hwk c_57 hj8 c_66 c_73 c_127 c_134 c_187 c_192)
                      exact J_228  _ _ (hP.sub [0, 1, 2, 3] rfl) (hD.sub [0, 1, 2, 3] (by decide) rfl) hS ls (lv_cast (lv_sub hl [1, 2, 3, 4, 5, 6, 7, 8, 0] rfl) (lcons rfl (lcons rfl (lcons rfl (lcons rfl (lcons rfl (lcons rfl (lcons rfl (lcons rfl (lcons (congrArg (fun z => (8, Value.int z)) q9_15) rfl))))))))))
                    · skip
                      refine lv_aload_n hx hb dX8_walk_195 rfl (lv_at hl 6 rfl) ?_
                      refine lv_iload_n hx hb dX8_walk_196 rfl (lv_at hl 5 rfl) ?_
                      refine lv_iload hx hb dX8_walk_197 (lv_at hl 3 rfl) ?_
                      refine lv_iadd hx hb dX8_walk_199 ?_
                      refine lv_iload hx hb dX8_walk_200 (lv_at hl 4 rfl) ?_
                      refine ca_Si (val := b2i (wallB kf (x + (stX pt)) y)) (va_runV (As := [.int (x + (stX pt)), .int y]) (rest := []) ⟨hx, hb, hml, hown, hts⟩ (c_X8_isWall ln G h0 mk mg mhb mdn mda mkp mbr msu msg mlo moa mog mop mra nd kp mo ne gl ca no (nI j) (nI tp.length) bc bo be kf (x + (stX pt)) y ) (cwV 2 hts (gV kCode_X8_isWall kMl_X8_94 kIm_X8_isWall kSel_X8_isWall kIni_X8) rfl rfl rfl ⟨rfl, hd_X8_isWall⟩ ⟨Nat.le_of_ble_eq_true rfl, Nat.le_of_ble_eq_true rfl⟩) ⟨ro_blind, va_recv hE.1 hP (ci := 8) (q0 := 0) rfl rfl, (ro_pre (hP.sub [0, 2] rfl) hS hE hT)⟩ rfl rfl hl.1 rfl (lv_room (Nat.le_of_ble_eq_true rfl)) dX8_walk_202 ⟨Nat.zero_le _, Nat.zero_le _⟩) ?_
                      refine lv_if_eq (tgt := 225) hx hb dX8_walk_205 (by decide) (fun c_205 => ?_) (fun c_205 => ?_)
                      · skip
                        have c_205 := b2i_z c_205
                        refine lv_iconst (v := 0) hx hb dX8_walk_225 (by decide) ?_
                        refine lv_istore (lv' := [(8, .int 0), (7, .int (b2i q)), (6, .int (stY pt)), (5, .int (stX pt)), (4, .int y), (3, .int x), (0, .ref h0), (1, .int (nI d)), (2, .int (nI pt))]) hx hb dX8_walk_226 hl (by decide) rfl (fun ls hl => ?_)
                        have q9_16 : 0 = (b2i (sdB kf x y (stX pt) (stY pt))) := (lf_X8_walk_10 h0 mk mg mhb mdn mda mkp mbr msu msg mlo moa mog mop mra nd kp mo ne gl ca no rs rw_ bc bo be da kf ra d pt x0 y0 hd4 hpt hxy hda n_ x y j q tp ra1 hj hfj hpo htp hra c_48 hwk c_57 hj8 c_66 c_73 c_127 c_134 c_187 c_192 c_205)
                        exact J_228  _ _ (hP.sub [0, 1, 2, 3] rfl) (hD.sub [0, 1, 2, 3] (by decide) rfl) hS ls (lv_cast (lv_sub hl [1, 2, 3, 4, 5, 6, 7, 8, 0] rfl) (lcons rfl (lcons rfl (lcons rfl (lcons rfl (lcons rfl (lcons rfl (lcons rfl (lcons rfl (lcons (congrArg (fun z => (8, Value.int z)) q9_16) rfl))))))))))
                      · skip
                        have c_205 := b2i_n c_205
                        refine lv_aload_n hx hb dX8_walk_208 rfl (lv_at hl 6 rfl) ?_
                        refine lv_iload_n hx hb dX8_walk_209 rfl (lv_at hl 5 rfl) ?_
                        refine lv_iload hx hb dX8_walk_210 (lv_at hl 4 rfl) ?_
                        refine lv_iload hx hb dX8_walk_212 (lv_at hl 2 rfl) ?_
                        refine lv_iadd hx hb dX8_walk_214 ?_
                        refine ca_Si (val := b2i (wallB kf x (y + (stY pt)))) (va_runV (As := [.int x, .int (y + (stY pt))]) (rest := []) ⟨hx, hb, hml, hown, hts⟩ (c_X8_isWall ln G h0 mk mg mhb mdn mda mkp mbr msu msg mlo moa mog mop mra nd kp mo ne gl ca no (nI j) (nI tp.length) bc bo be kf x (y + (stY pt)) ) (cwV 2 hts (gV kCode_X8_isWall kMl_X8_94 kIm_X8_isWall kSel_X8_isWall kIni_X8) rfl rfl rfl ⟨rfl, hd_X8_isWall⟩ ⟨Nat.le_of_ble_eq_true rfl, Nat.le_of_ble_eq_true rfl⟩) ⟨ro_blind, va_recv hE.1 hP (ci := 8) (q0 := 0) rfl rfl, (ro_pre (hP.sub [0, 2] rfl) hS hE hT)⟩ rfl rfl hl.1 rfl (lv_room (Nat.le_of_ble_eq_true rfl)) dX8_walk_215 ⟨Nat.zero_le _, Nat.zero_le _⟩) ?_
                        refine lv_if_eq (tgt := 225) hx hb dX8_walk_218 (by decide) (fun c_218 => ?_) (fun c_218 => ?_)
                        · skip
                          have c_218 := b2i_z c_218
                          refine lv_iconst (v := 0) hx hb dX8_walk_225 (by decide) ?_
                          refine lv_istore (lv' := [(8, .int 0), (7, .int (b2i q)), (6, .int (stY pt)), (5, .int (stX pt)), (4, .int y), (3, .int x), (0, .ref h0), (1, .int (nI d)), (2, .int (nI pt))]) hx hb dX8_walk_226 hl (by decide) rfl (fun ls hl => ?_)
                          have q9_17 : 0 = (b2i (sdB kf x y (stX pt) (stY pt))) := (lf_X8_walk_11 h0 mk mg mhb mdn mda mkp mbr msu msg mlo moa mog mop mra nd kp mo ne gl ca no rs rw_ bc bo be da kf ra d pt x0 y0 hd4 hpt hxy hda n_ x y j q tp ra1 hj hfj hpo htp hra c_48 hwk c_57 hj8 c_66 c_73 c_127 c_134 c_187 c_192 c_205 c_218)
                          exact J_228  _ _ (hP.sub [0, 1, 2, 3] rfl) (hD.sub [0, 1, 2, 3] (by decide) rfl) hS ls (lv_cast (lv_sub hl [1, 2, 3, 4, 5, 6, 7, 8, 0] rfl) (lcons rfl (lcons rfl (lcons rfl (lcons rfl (lcons rfl (lcons rfl (lcons rfl (lcons rfl (lcons (congrArg (fun z => (8, Value.int z)) q9_17) rfl))))))))))
                        · skip
                          have c_218 := b2i_n c_218
                          refine lv_iconst (v := 1) hx hb dX8_walk_221 (by decide) ?_
                          refine lv_goto (tgt := 226) hx hb dX8_walk_222 (by decide) ?_
                          refine lv_istore (lv' := [(8, .int 1), (7, .int (b2i q)), (6, .int (stY pt)), (5, .int (stX pt)), (4, .int y), (3, .int x), (0, .ref h0), (1, .int (nI d)), (2, .int (nI pt))]) hx hb dX8_walk_226 hl (by decide) rfl (fun ls hl => ?_)
                          have q9_18 : 1 = (b2i (sdB kf x y (stX pt) (stY pt))) := (lf_X8_walk_12 h0 mk mg mhb mdn mda mkp mbr msu msg mlo moa mog mop mra nd kp mo ne gl ca no rs rw_ bc bo be da kf ra d pt x0 y0 hd4 hpt hxy hda n_ x y j q tp ra1 hj hfj hpo htp hra c_48 hwk c_57 hj8 c_66 c_73 c_127 c_134 c_187 c_192 c_205 c_218)
                          exact J_228  _ _ (hP.sub [0, 1, 2, 3] rfl) (hD.sub [0, 1, 2, 3] (by decide) rfl) hS ls (lv_cast (lv_sub hl [1, 2, 3, 4, 5, 6, 7, 8, 0] rfl) (lcons rfl (lcons rfl (lcons rfl (lcons rfl (lcons rfl (lcons rfl (lcons rfl (lcons rfl (lcons (congrArg (fun z => (8, Value.int z)) q9_18) rfl))))))))))
                · skip
                  refine lv_iload hx hb dX8_walk_137 (lv_at hl 3 rfl) ?_
                  refine lv_if_eq (tgt := 179) hx hb dX8_walk_139 (by decide) (fun c_139 => ?_) (fun c_139 => ?_)
                  · skip
                    refine lv_iconst (v := 0) hx hb dX8_walk_179 (by decide) ?_
                    refine lv_istore (lv' := [(8, .int 0), (7, .int (b2i q)), (6, .int (stY pt)), (5, .int (stX pt)), (4, .int y), (3, .int x), (0, .ref h0), (1, .int (nI d)), (2, .int (nI pt))]) hx hb dX8_walk_180 hl (by decide) rfl (fun ls hl => ?_)
                    refine lv_goto (tgt := 228) hx hb dX8_walk_182 (by decide) ?_
                    have q9_19 : 0 = (b2i (sdB kf x y (stX pt) (stY pt))) := (lf_X8_walk_13 h0 mk mg mhb mdn mda mkp mbr msu msg mlo moa mog mop mra nd kp mo ne gl ca no rs rw_ bc bo be da kf ra d pt x0 y0 hd4 hpt hxy hda n_ x y j q tp ra1 hj hfj hpo htp hra c_48 hwk c_57 hj8 c_66 c_73 c_127 c_134 c_139)
                    exact J_228  _ _ (hP.sub [0, 1, 2, 3] rfl) (hD.sub [0, 1, 2, 3] (by decide) rfl) hS ls (lv_cast (lv_sub hl [1, 2, 3, 4, 5, 6, 7, 8, 0] rfl) (lcons rfl (lcons rfl (lcons rfl (lcons rfl (lcons rfl (lcons rfl (lcons rfl (lcons rfl (lcons (congrArg (fun z => (8, Value.int z)) q9_19) rfl))))))))))
                  · skip
                    refine lv_aload_n hx hb dX8_walk_142 rfl (lv_at hl 6 rfl) ?_
                    refine lv_iload_n hx hb dX8_walk_143 rfl (lv_at hl 5 rfl) ?_
                    refine lv_iload hx hb dX8_walk_144 (lv_at hl 4 rfl) ?_
                    refine lv_iload hx hb dX8_walk_146 (lv_at hl 2 rfl) ?_
                    refine lv_iconst (v := 2) hx hb dX8_walk_148 (by decide) ?_
                    refine lv_idiv hx hb dX8_walk_149 (by decide) ?_
                    refine lv_iadd hx hb dX8_walk_150 ?_
                    refine ca_Si (val := b2i (wallB kf x (y + ((stY pt) / 2)))) (va_runV (As := [.int x, .int (y + ((stY pt) / 2))]) (rest := []) ⟨hx, hb, hml, hown, hts⟩ (c_X8_isWall ln G h0 mk mg mhb mdn mda mkp mbr msu msg mlo moa mog mop mra nd kp mo ne gl ca no (nI j) (nI tp.length) bc bo be kf x (y + ((stY pt) / 2)) ) (cwV 2 hts (gV kCode_X8_isWall kMl_X8_94 kIm_X8_isWall kSel_X8_isWall kIni_X8) rfl rfl rfl ⟨rfl, hd_X8_isWall⟩ ⟨Nat.le_of_ble_eq_true rfl, Nat.le_of_ble_eq_true rfl⟩) ⟨ro_blind, va_recv hE.1 hP (ci := 8) (q0 := 0) rfl rfl, (ro_pre (hP.sub [0, 2] rfl) hS hE hT)⟩ rfl rfl hl.1 rfl (lv_room (Nat.le_of_ble_eq_true rfl)) dX8_walk_151 ⟨Nat.zero_le _, Nat.zero_le _⟩) ?_
                    refine lv_if_eq (tgt := 179) hx hb dX8_walk_154 (by decide) (fun c_154 => ?_) (fun c_154 => ?_)
                    · skip
                      have c_154 := b2i_z c_154
                      refine lv_iconst (v := 0) hx hb dX8_walk_179 (by decide) ?_
                      refine lv_istore (lv' := [(8, .int 0), (7, .int (b2i q)), (6, .int (stY pt)), (5, .int (stX pt)), (4, .int y), (3, .int x), (0, .ref h0), (1, .int (nI d)), (2, .int (nI pt))]) hx hb dX8_walk_180 hl (by decide) rfl (fun ls hl => ?_)
                      refine lv_goto (tgt := 228) hx hb dX8_walk_182 (by decide) ?_
                      have q9_20 : 0 = (b2i (sdB kf x y (stX pt) (stY pt))) := (lf_X8_walk_14 h0 mk mg mhb mdn mda mkp mbr msu msg mlo moa mog mop mra nd kp mo ne gl ca no rs rw_ bc bo be da kf ra d pt x0 y0 hd4 hpt hxy hda n_ x y j q tp ra1 hj hfj hpo htp hra c_48 hwk c_57 hj8 c_66 c_73 c_127 c_134 c_139 c_154)
                      exact J_228  _ _ (hP.sub [0, 1, 2, 3] rfl) (hD.sub [0, 1, 2, 3] (by decide) rfl) hS ls (lv_cast (lv_sub hl [1, 2, 3, 4, 5, 6, 7, 8, 0] rfl) (lcons rfl (lcons rfl (lcons rfl (lcons rfl (lcons rfl (lcons rfl (lcons rfl (lcons rfl (lcons (congrArg (fun z => (8, Value.int z)) q9_20) rfl))))))))))
                    · skip
                      have c_154 := b2i_n c_154
                      refine lv_aload_n hx hb dX8_walk_157 rfl (lv_at hl 6 rfl) ?_
                      refine lv_iload_n hx hb dX8_walk_158 rfl (lv_at hl 5 rfl) ?_
                      refine lv_iload hx hb dX8_walk_159 (lv_at hl 3 rfl) ?_
                      refine lv_iadd hx hb dX8_walk_161 ?_
                      refine lv_iload hx hb dX8_walk_162 (lv_at hl 4 rfl) ?_
                      refine lv_iload hx hb dX8_walk_164 (lv_at hl 2 rfl) ?_
                      refine lv_iconst (v := 2) hx hb dX8_walk_166 (by decide) ?_
                      refine lv_idiv hx hb dX8_walk_167 (by decide) ?_
                      refine lv_iadd hx hb dX8_walk_168 ?_
                      refine ca_Si (val := b2i (wallB kf (x + (stX pt)) (y + ((stY pt) / 2)))) (va_runV (As := [.int (x + (stX pt)), .int (y + ((stY pt) / 2))]) (rest := []) ⟨hx, hb, hml, hown, hts⟩ (c_X8_isWall ln G h0 mk mg mhb mdn mda mkp mbr msu msg mlo moa mog mop mra nd kp mo ne gl ca no (nI j) (nI tp.length) bc bo be kf (x + (stX pt)) (y + ((stY pt) / 2)) ) (cwV 2 hts (gV kCode_X8_isWall kMl_X8_94 kIm_X8_isWall kSel_X8_isWall kIni_X8) rfl rfl rfl ⟨rfl, hd_X8_isWall⟩ ⟨Nat.le_of_ble_eq_true rfl, Nat.le_of_ble_eq_true rfl⟩) ⟨ro_blind, va_recv hE.1 hP (ci := 8) (q0 := 0) rfl rfl, (ro_pre (hP.sub [0, 2] rfl) hS hE hT)⟩ rfl rfl hl.1 rfl (lv_room (Nat.le_of_ble_eq_true rfl)) dX8_walk_169 ⟨Nat.zero_le _, Nat.zero_le _⟩) ?_
                      refine lv_if_eq (tgt := 179) hx hb dX8_walk_172 (by decide) (fun c_172 => ?_) (fun c_172 => ?_)
                      · skip
                        have c_172 := b2i_z c_172
                        refine lv_iconst (v := 0) hx hb dX8_walk_179 (by decide) ?_
                        refine lv_istore (lv' := [(8, .int 0), (7, .int (b2i q)), (6, .int (stY pt)), (5, .int (stX pt)), (4, .int y), (3, .int x), (0, .ref h0), (1, .int (nI d)), (2, .int (nI pt))]) hx hb dX8_walk_180 hl (by decide) rfl (fun ls hl => ?_)
                        refine lv_goto (tgt := 228) hx hb dX8_walk_182 (by decide) ?_
                        have q9_21 : 0 = (b2i (sdB kf x y (stX pt) (stY pt))) := (lf_X8_walk_15 h0 mk mg mhb mdn mda mkp mbr msu msg mlo moa mog mop mra nd kp mo ne gl ca no rs rw_ bc bo be da kf ra d pt x0 y0 hd4 hpt hxy hda n_ x y j q tp ra1 hj hfj hpo htp hra c_48 hwk c_57 hj8 c_66 c_73 c_127 c_134 c_139 c_154 c_172)
                        exact J_228  _ _ (hP.sub [0, 1, 2, 3] rfl) (hD.sub [0, 1, 2, 3] (by decide) rfl) hS ls (lv_cast (lv_sub hl [1, 2, 3, 4, 5, 6, 7, 8, 0] rfl) (lcons rfl (lcons rfl (lcons rfl (lcons rfl (lcons rfl (lcons rfl (lcons rfl (lcons rfl (lcons (congrArg (fun z => (8, Value.int z)) q9_21) rfl))))))))))
                      · skip
                        have c_172 := b2i_n c_172
                        refine lv_iconst (v := 1) hx hb dX8_walk_175 (by decide) ?_
                        refine lv_goto (tgt := 180) hx hb dX8_walk_176 (by decide) ?_
                        refine lv_istore (lv' := [(8, .int 1), (7, .int (b2i q)), (6, .int (stY pt)), (5, .int (stX pt)), (4, .int y), (3, .int x), (0, .ref h0), (1, .int (nI d)), (2, .int (nI pt))]) hx hb dX8_walk_180 hl (by decide) rfl (fun ls hl => ?_)
                        refine lv_goto (tgt := 228) hx hb dX8_walk_182 (by decide) ?_
                        have q9_22 : 1 = (b2i (sdB kf x y (stX pt) (stY pt))) := (lf_X8_walk_16 h0 mk mg mhb mdn mda mkp mbr msu msg mlo moa mog mop mra nd kp mo ne gl ca no rs rw_ bc bo be da kf ra d pt x0 y0 hd4 hpt hxy hda n_ x y j q tp ra1 hj hfj hpo htp hra c_48 hwk c_57 hj8 c_66 c_73 c_127 c_134 c_139 c_154 c_172)
                        exact J_228  _ _ (hP.sub [0, 1, 2, 3] rfl) (hD.sub [0, 1, 2, 3] (by decide) rfl) hS ls (lv_cast (lv_sub hl [1, 2, 3, 4, 5, 6, 7, 8, 0] rfl) (lcons rfl (lcons rfl (lcons rfl (lcons rfl (lcons rfl (lcons rfl (lcons rfl (lcons rfl (lcons (congrArg (fun z => (8, Value.int z)) q9_22) rfl))))))))))
            · skip
              refine lv_iload hx hb dX8_walk_76 (lv_at hl 2 rfl) ?_
              refine lv_if_eq (tgt := 118) hx hb dX8_walk_78 (by decide) (fun c_78 => ?_) (fun c_78 => ?_)
              · skip
                refine lv_iconst (v := 0) hx hb dX8_walk_118 (by decide) ?_
                refine lv_istore (lv' := [(8, .int 0), (7, .int (b2i q)), (6, .int (stY pt)), (5, .int (stX pt)), (4, .int y), (3, .int x), (0, .ref h0), (1, .int (nI d)), (2, .int (nI pt))]) hx hb dX8_walk_119 hl (by decide) rfl (fun ls hl => ?_)
                refine lv_goto (tgt := 228) hx hb dX8_walk_121 (by decide) ?_
                have q9_23 : 0 = (b2i (sdB kf x y (stX pt) (stY pt))) := (lf_X8_walk_17 h0 mk mg mhb mdn mda mkp mbr msu msg mlo moa mog mop mra nd kp mo ne gl ca no rs rw_ bc bo be da kf ra d pt x0 y0 hd4 hpt hxy hda n_ x y j q tp ra1 hj hfj hpo htp hra c_48 hwk c_57 hj8 c_66 c_73 c_78)
                exact J_228  _ _ (hP.sub [0, 1, 2, 3] rfl) (hD.sub [0, 1, 2, 3] (by decide) rfl) hS ls (lv_cast (lv_sub hl [1, 2, 3, 4, 5, 6, 7, 8, 0] rfl) (lcons rfl (lcons rfl (lcons rfl (lcons rfl (lcons rfl (lcons rfl (lcons rfl (lcons rfl (lcons (congrArg (fun z => (8, Value.int z)) q9_23) rfl))))))))))
              · skip
                refine lv_aload_n hx hb dX8_walk_81 rfl (lv_at hl 6 rfl) ?_
                refine lv_iload_n hx hb dX8_walk_82 rfl (lv_at hl 5 rfl) ?_
                refine lv_iload hx hb dX8_walk_83 (lv_at hl 3 rfl) ?_
                refine lv_iconst (v := 2) hx hb dX8_walk_85 (by decide) ?_
                refine lv_idiv hx hb dX8_walk_86 (by decide) ?_
                refine lv_iadd hx hb dX8_walk_87 ?_
                refine lv_iload hx hb dX8_walk_88 (lv_at hl 4 rfl) ?_
                refine ca_Si (val := b2i (wallB kf (x + ((stX pt) / 2)) y)) (va_runV (As := [.int (x + ((stX pt) / 2)), .int y]) (rest := []) ⟨hx, hb, hml, hown, hts⟩ (c_X8_isWall ln G h0 mk mg mhb mdn mda mkp mbr msu msg mlo moa mog mop mra nd kp mo ne gl ca no (nI j) (nI tp.length) bc bo be kf (x + ((stX pt) / 2)) y ) (cwV 2 hts (gV kCode_X8_isWall kMl_X8_94 kIm_X8_isWall kSel_X8_isWall kIni_X8) rfl rfl rfl ⟨rfl, hd_X8_isWall⟩ ⟨Nat.le_of_ble_eq_true rfl, Nat.le_of_ble_eq_true rfl⟩) ⟨ro_blind, va_recv hE.1 hP (ci := 8) (q0 := 0) rfl rfl, (ro_pre (hP.sub [0, 2] rfl) hS hE hT)⟩ rfl rfl hl.1 rfl (lv_room (Nat.le_of_ble_eq_true rfl)) dX8_walk_90 ⟨Nat.zero_le _, Nat.zero_le _⟩) ?_
                refine lv_if_eq (tgt := 118) hx hb dX8_walk_93 (by decide) (fun c_93 => ?_) (fun c_93 => ?_)
                · skip
                  have c_93 := b2i_z c_93
                  refine lv_iconst (v := 0) hx hb dX8_walk_118 (by decide) ?_
                  refine lv_istore (lv' := [(8, .int 0), (7, .int (b2i q)), (6, .int (stY pt)), (5, .int (stX pt)), (4, .int y), (3, .int x), (0, .ref h0), (1, .int (nI d)), (2, .int (nI pt))]) hx hb dX8_walk_119 hl (by decide) rfl (fun ls hl => ?_)
                  refine lv_goto (tgt := 228) hx hb dX8_walk_121 (by decide) ?_
                  have q9_24 : 0 = (b2i (sdB kf x y (stX pt) (stY pt))) := (lf_X8_walk_18 h0 mk mg mhb mdn mda mkp mbr msu msg mlo moa mog mop mra nd kp mo ne gl ca no rs rw_ bc bo be da kf ra d pt x0 y0 hd4 hpt hxy hda n_ x y j q tp ra1 hj hfj hpo htp hra c_48 hwk c_57 hj8 c_66 c_73 c_78 c_93)
                  exact J_228  _ _ (hP.sub [0, 1, 2, 3] rfl) (hD.sub [0, 1, 2, 3] (by decide) rfl) hS ls (lv_cast (lv_sub hl [1, 2, 3, 4, 5, 6, 7, 8, 0] rfl) (lcons rfl (lcons rfl (lcons rfl (lcons rfl (lcons rfl (lcons rfl (lcons rfl (lcons rfl (lcons (congrArg (fun z => (8, Value.int z)) q9_24) rfl))))))))))
                · skip
                  have c_93 := b2i_n c_93
                  refine lv_aload_n hx hb dX8_walk_96 rfl (lv_at hl 6 rfl) ?_
                  refine lv_iload_n hx hb dX8_walk_97 rfl (lv_at hl 5 rfl) ?_
                  refine lv_iload hx hb dX8_walk_98 (lv_at hl 3 rfl) ?_
                  refine lv_iconst (v := 2) hx hb dX8_walk_100 (by decide) ?_
                  refine lv_idiv hx hb dX8_walk_101 (by decide) ?_
                  refine lv_iadd hx hb dX8_walk_102 ?_
                  refine lv_iload hx hb dX8_walk_103 (lv_at hl 4 rfl) ?_
                  refine lv_iload hx hb dX8_walk_105 (lv_at hl 2 rfl) ?_
                  refine lv_iadd hx hb dX8_walk_107 ?_
                  refine ca_Si (val := b2i (wallB kf (x + ((stX pt) / 2)) (y + (stY pt)))) (va_runV (As := [.int (x + ((stX pt) / 2)), .int (y + (stY pt))]) (rest := []) ⟨hx, hb, hml, hown, hts⟩ (c_X8_isWall ln G h0 mk mg mhb mdn mda mkp mbr msu msg mlo moa mog mop mra nd kp mo ne gl ca no (nI j) (nI tp.length) bc bo be kf (x + ((stX pt) / 2)) (y + (stY pt)) ) (cwV 2 hts (gV kCode_X8_isWall kMl_X8_94 kIm_X8_isWall kSel_X8_isWall kIni_X8) rfl rfl rfl ⟨rfl, hd_X8_isWall⟩ ⟨Nat.le_of_ble_eq_true rfl, Nat.le_of_ble_eq_true rfl⟩) ⟨ro_blind, va_recv hE.1 hP (ci := 8) (q0 := 0) rfl rfl, (ro_pre (hP.sub [0, 2] rfl) hS hE hT)⟩ rfl rfl hl.1 rfl (lv_room (Nat.le_of_ble_eq_true rfl)) dX8_walk_108 ⟨Nat.zero_le _, Nat.zero_le _⟩) ?_
                  refine lv_if_eq (tgt := 118) hx hb dX8_walk_111 (by decide) (fun c_111 => ?_) (fun c_111 => ?_)
                  · skip
                    have c_111 := b2i_z c_111
                    refine lv_iconst (v := 0) hx hb dX8_walk_118 (by decide) ?_
                    refine lv_istore (lv' := [(8, .int 0), (7, .int (b2i q)), (6, .int (stY pt)), (5, .int (stX pt)), (4, .int y), (3, .int x), (0, .ref h0), (1, .int (nI d)), (2, .int (nI pt))]) hx hb dX8_walk_119 hl (by decide) rfl (fun ls hl => ?_)
                    refine lv_goto (tgt := 228) hx hb dX8_walk_121 (by decide) ?_
                    have q9_25 : 0 = (b2i (sdB kf x y (stX pt) (stY pt))) := (lf_X8_walk_19 h0 mk mg mhb mdn mda mkp mbr msu msg mlo moa mog mop mra nd kp mo ne gl ca no rs rw_ bc bo be da kf ra d pt x0 y0 hd4 hpt hxy hda n_ x y j q tp ra1 hj hfj hpo htp hra c_48 hwk c_57 hj8 c_66 c_73 c_78 c_93 c_111)
                    exact J_228  _ _ (hP.sub [0, 1, 2, 3] rfl) (hD.sub [0, 1, 2, 3] (by decide) rfl) hS ls (lv_cast (lv_sub hl [1, 2, 3, 4, 5, 6, 7, 8, 0] rfl) (lcons rfl (lcons rfl (lcons rfl (lcons rfl (lcons rfl (lcons rfl (lcons rfl (lcons rfl (lcons (congrArg (fun z => (8, Value.int z)) q9_25) rfl))))))))))
                  · skip
                    have c_111 := b2i_n c_111
                    refine lv_iconst (v := 1) hx hb dX8_walk_114 (by decide) ?_
                    refine lv_goto (tgt := 119) hx hb dX8_walk_115 (by decide) ?_
                    refine lv_istore (lv' := [(8, .int 1), (7, .int (b2i q)), (6, .int (stY pt)), (5, .int (stX pt)), (4, .int y), (3, .int x), (0, .ref h0), (1, .int (nI d)), (2, .int (nI pt))]) hx hb dX8_walk_119 hl (by decide) rfl (fun ls hl => ?_)
                    refine lv_goto (tgt := 228) hx hb dX8_walk_121 (by decide) ?_
                    have q9_26 : 1 = (b2i (sdB kf x y (stX pt) (stY pt))) := (lf_X8_walk_20 h0 mk mg mhb mdn mda mkp mbr msu msg mlo moa mog mop mra nd kp mo ne gl ca no rs rw_ bc bo be da kf ra d pt x0 y0 hd4 hpt hxy hda n_ x y j q tp ra1 hj hfj hpo htp hra c_48 hwk c_57 hj8 c_66 c_73 c_78 c_93 c_111)
                    exact J_228  _ _ (hP.sub [0, 1, 2, 3] rfl) (hD.sub [0, 1, 2, 3] (by decide) rfl) hS ls (lv_cast (lv_sub hl [1, 2, 3, 4, 5, 6, 7, 8, 0] rfl) (lcons rfl (lcons rfl (lcons rfl (lcons rfl (lcons rfl (lcons rfl (lcons rfl (lcons rfl (lcons (congrArg (fun z => (8, Value.int z)) q9_26) rfl))))))))))
  have q9_27 : 1 = (b2i true) := rfl
  have q9_28 : 0 = (nI 0) := rfl
  have q9_29 : 0 = (nI ([] : List Int32).length) := rfl
  have cw9 : ([(h0, .inr (8, [.ref mk, .ref mg, .ref mhb, .ref mdn, .int (nI nd), .ref mda, .ref mkp, .int kp, .ref mbr, .ref msu, .ref msg, .ref mlo, .int mo, .int ne, .int gl, .int ca, .int (nI no), .ref moa, .ref mog, .ref mop, .int 0, .int 0, .ref mra, .int bc, .int bo, .int be])), eI G mda 4 da, eI G mk 64 kf, eI G mra 8 ra] : va_W) = [(h0, .inr (8, [.ref mk, .ref mg, .ref mhb, .ref mdn, .int (nI nd), .ref mda, .ref mkp, .int kp, .ref mbr, .ref msu, .ref msg, .ref mlo, .int mo, .int ne, .int gl, .int ca, .int (nI no), .ref moa, .ref mog, .ref mop, .int (nI 0), .int (nI ([] : List Int32).length), .ref mra, .int bc, .int bo, .int be])), eI G mda 4 da, eI G mk 64 kf, eI G mra 8 ra] := (lcons ((congrArg (fun z => ((h0, Sum.inr (8, [.ref mk, .ref mg, .ref mhb, .ref mdn, .int (nI nd), .ref mda, .ref mkp, .int kp, .ref mbr, .ref msu, .ref msg, .ref mlo, .int mo, .int ne, .int gl, .int ca, .int (nI no), .ref moa, .ref mog, .ref mop, Value.int z, .int 0, .ref mra, .int bc, .int bo, .int be])) : Nat × va_E)) q9_28).trans (congrArg (fun z => ((h0, Sum.inr (8, [.ref mk, .ref mg, .ref mhb, .ref mdn, .int (nI nd), .ref mda, .ref mkp, .int kp, .ref mbr, .ref msu, .ref msg, .ref mlo, .int mo, .int ne, .int gl, .int ca, .int (nI no), .ref moa, .ref mog, .ref mop, .int (nI 0), Value.int z, .ref mra, .int bc, .int bo, .int be])) : Nat × va_E)) q9_29)) (lcons rfl (lcons rfl (lcons rfl rfl))))
  exact J_46 9 x0 y0 0 true ([] : List Int32) ra (by omega) (by omega) (wk_0 _ _ _ _ _) (po_0 _ _ _ _) (Nat.le_refl _) (ra_0 _) _ _ (va_castP (hP.sub [0, 1, 2, 3] rfl) cw9) (va_castD (hD.sub [0, 1, 2, 3] (by decide) rfl) cw9) hS ls (lv_cast (lv_sub hl [0, 1, 2, 3, 4, 5, 6, 7] rfl) (lcons (congrArg (fun z => (7, Value.int z)) q9_27) (lcons rfl (lcons rfl (lcons rfl (lcons rfl (lcons rfl (lcons rfl (lcons rfl rfl)))))))))
