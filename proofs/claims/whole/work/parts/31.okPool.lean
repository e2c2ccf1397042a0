/-! the tables of 31.okPool are the bytes', and the words are there: by program (wip/whole/ok.py) -/
theorem ok_Pool_init : gOk m_Pool_init := fun q hq => List.all_eq_true.mp (show (mT m_Pool_init).all (gOkQ m_Pool_init) = true by decide +kernel) q hq
theorem ok_Pool_node : gOk m_Pool_node := fun q hq => List.all_eq_true.mp (show (mT m_Pool_node).all (gOkQ m_Pool_node) = true by decide +kernel) q hq
theorem ok_Pool_isTaken : gOk m_Pool_isTaken := fun q hq => List.all_eq_true.mp (show (mT m_Pool_isTaken).all (gOkQ m_Pool_isTaken) = true by decide +kernel) q hq
theorem ok_Pool_takeLeast : gOk m_Pool_takeLeast := fun q hq => List.all_eq_true.mp (show (mT m_Pool_takeLeast).all (gOkQ m_Pool_takeLeast) = true by decide +kernel) q hq
theorem ok_Pool_giveBack : gOk m_Pool_giveBack := fun q hq => List.all_eq_true.mp (show (mT m_Pool_giveBack).all (gOkQ m_Pool_giveBack) = true by decide +kernel) q hq
