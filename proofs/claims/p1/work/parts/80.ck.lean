def jm_ckM (y : Nat) : Bool := ((jm_co jG y).zipIdx.all fun q => jm_ckb jX (jt_ow.getD y 0) (jt_kn.getD y 9 == 2) (jm_bt jU y) (jU.2.2.1 y) q.2 q.1)
