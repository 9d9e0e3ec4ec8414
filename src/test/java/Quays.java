/** Quays in the situations that calls may meet, each made anew by the same calls. */
enum Quays {
    /** Four places, nothing told. */
    NEW {
        @Override
        BerthPlan made() {
            return new BerthPlan(4);
        }
    },

    /** Four places, no ship, and the plan of no ship. */
    WITHOUT_SHIPS {
        @Override
        BerthPlan made() {
            BerthPlan x = new BerthPlan(4);
            x.solve();
            return x;
        }
    },

    /** One place and one ship, not solved yet. */
    UNSOLVED {
        @Override
        BerthPlan made() {
            BerthPlan x = new BerthPlan(1);
            x.ship(1, 0, 1, 0, 1);
            return x;
        }
    },

    /** One place and one ship that arrives behind the tide since a change: there is no plan now. */
    CHANGED {
        @Override
        BerthPlan made() {
            BerthPlan x = UNSOLVED.made();
            x.tide(0, 0);
            x.solve();
            x.change(0, 1);
            return x;
        }
    },

    /** Four places, three ships of which the last is fixed, two spans of tide, and a plan. */
    PLANNED {
        @Override
        BerthPlan made() {
            BerthPlan x = told();
            x.solve();
            return x;
        }
    },

    /** The same quay after something was told: the plan is void. */
    VOID {
        @Override
        BerthPlan made() {
            BerthPlan x = PLANNED.made();
            x.depth(3, 3, 11);
            return x;
        }
    },

    /** The same quay with a fourth ship for which it is too short: there is no plan. */
    STUCK {
        @Override
        BerthPlan made() {
            BerthPlan x = PLANNED.made();
            x.ship(5, 0, 1, 0, 1);
            x.solve();
            return x;
        }
    },

    /** Six places, four ships, eight spans of tide, a place with all kinds of gear, and a plan. */
    FULL {
        @Override
        BerthPlan made() {
            BerthPlan x = new BerthPlan(6);
            for (int kind = 0; kind < 8; kind++) {
                x.gear(5, kind, true);
            }
            x.ship(6, 20, 2, 0, 9);
            x.ship(2, 0, 3, 0, 100);
            x.ship(1, 20, 24, 5, 1);
            x.ship(3, 100, 4, 15, 50);
            for (int kind = 0; kind < 8; kind++) {
                x.wants(2, kind, true);
            }
            x.fix(1, 4, 3);
            x.fix(3, 0, 7);
            for (int span = 0; span < 8; span++) {
                x.tide(2 * span, 2 * span);
            }
            x.solve();
            return x;
        }
    };

    /** Those with a ship and no plan, each for another reason. */
    static final Quays[] WITHOUT_A_PLAN = {UNSOLVED, CHANGED, VOID, STUCK};

    abstract BerthPlan made();

    private static BerthPlan told() {
        BerthPlan x = new BerthPlan(4);
        x.depth(1, 2, 30);
        x.depth(3, 3, 10);
        x.gear(1, 2, true);
        x.gear(2, 5, true);
        x.ship(2, 25, 3, 1, 4);
        x.ship(1, 0, 5, 2, 7);
        x.ship(1, 40, 2, 6, 3);
        x.wants(0, 2, true);
        x.wants(0, 5, true);
        x.fix(2, 2, 4);
        x.tide(0, 3);
        x.tide(8, 20);
        return x;
    }
}
