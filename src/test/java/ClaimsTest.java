/** Promises 6, 7, 8, 9 and 14: claims are staked, worked and lapse; the rules; whether ore pays. */
public final class ClaimsTest {
    private ClaimsTest() {
    }

    public static void main(String[] args) {
        stake();
        stakeAtTheLastPlace();
        stakeNotAsThingsStand();
        work();
        pass();
        passToTheLastDay();
        rules();
        claimFacts();
        ore();
        Checks.end();
    }

    private static void stake() {
        Steplode field = new Steplode();
        Checks.due("6: nine places", 0, () -> field.stake(0, 0, 14));
        Checks.due("6: one place", 1, () -> field.stake(3, 35, 35));
        Checks.due("6: a row of six", 2, () -> field.stake(0, 18, 23));
        Checks.due("6: two by four", 3, () -> field.stake(2, 24, 33));
        Checks.due("6: four claims", 4, () -> field.field(4));
        int[] inClaims = {0, 0, 0, -1, -1, -1};
        for (int place = 0; place < 6; place++) {
            int asked = place;
            Checks.due("6: the claim of " + place, inClaims[place], () -> field.ofPlace(asked, 4));
        }
        Checks.due("6: the last place of the rectangle", 0, () -> field.ofPlace(14, 4));
        Checks.due("6: one farther right", -1, () -> field.ofPlace(15, 4));
        Checks.due("6: a column of four", 4, () -> field.stake(1, 4, 16));
    }

    private static void stakeAtTheLastPlace() {
        Steplode field = new Steplode();
        field.stake(0, 35, 35);
        Checks.due("6: the place 35 alone is taken", Checks.STATE, () -> field.stake(1, 28, 35));
        Checks.due("6: beside it", 1, () -> field.stake(1, 27, 34));
    }

    private static void stakeNotAsThingsStand() {
        Steplode field = new Steplode();
        field.stake(0, 7, 14);
        Checks.due("6: another's place", Checks.STATE, () -> field.stake(1, 14, 21));
        Checks.due("6: its own place", Checks.STATE, () -> field.stake(0, 7, 7));
        Checks.due("6: a claim inside", Checks.STATE, () -> field.stake(1, 0, 14));
        field.stake(0, 0, 0);
        field.stake(0, 1, 1);
        Checks.due("6: a fourth claim", Checks.STATE, () -> field.stake(0, 2, 2));
        Checks.due("6: of another it is none", 3, () -> field.stake(1, 2, 2));
        Checks.due("6: the place 0 alone is taken", Checks.STATE, () -> field.stake(2, 0, 0));
        field.pass(29);
        Checks.due("6: not lapsed yet", Checks.STATE, () -> field.stake(2, 7, 7));
        field.work(3);
        field.pass(1);
        Checks.due("6: places of a claim that has lapsed", 4, () -> field.stake(0, 7, 14));
        Checks.due("6: one that was worked", Checks.STATE, () -> field.stake(0, 2, 2));
        field.stake(0, 0, 0);
        Checks.due("6: three that have not lapsed", 6, () -> field.stake(0, 1, 1));
        Checks.due("6: the eighth", 7, () -> field.stake(3, 35, 35));
        Checks.due("6: a ninth", Checks.STATE, () -> field.stake(3, 34, 34));
        field.pass(100);
        Checks.due("6: a ninth, though all have lapsed", Checks.STATE, () -> field.stake(3, 34, 34));
    }

    private static void work() {
        Steplode field = new Steplode();
        field.stake(0, 0, 0);
        field.stake(1, 1, 1);
        Checks.due("7: on the day itself", 0, () -> field.work(0));
        field.pass(29);
        Checks.due("7: on the last day", 29, () -> field.work(0));
        Checks.due("7: its days begin anew", 0, () -> field.ofClaim(0, 5));
        Checks.due("7: the other's do not", 29, () -> field.ofClaim(1, 5));
        field.pass(1);
        Checks.due("7: since it was worked last", 1, () -> field.work(0));
        Checks.due("7: it has lapsed", Checks.STATE, () -> field.work(1));
        field.pass(30);
        Checks.due("7: it has lapsed, though it was worked", Checks.STATE, () -> field.work(0));
    }

    private static void pass() {
        Steplode field = new Steplode();
        Checks.due("8: without claims", 0, () -> field.pass(10));
        Checks.due("8: today", 10, () -> field.field(0));
        field.stake(0, 0, 0);
        Checks.due("8: 20 days", 0, () -> field.pass(20));
        field.stake(1, 1, 1);
        Checks.due("8: 29 days", 0, () -> field.pass(9));
        Checks.due("8: it has not lapsed", 0, () -> field.ofClaim(0, 4));
        Checks.due("8: 30 days", 1, () -> field.pass(1));
        Checks.due("8: it has lapsed", 1, () -> field.ofClaim(0, 4));
        Checks.due("8: it lapses but once", 1, () -> field.pass(100));
        Checks.due("8: none is left", 0, () -> field.field(4));
    }

    private static void passToTheLastDay() {
        Steplode field = new Steplode();
        for (int times = 0; times < 19; times++) {
            field.pass(100);
        }
        field.pass(99);
        field.stake(0, 0, 0);
        Checks.due("8: day 2001", Checks.STATE, () -> field.pass(2));
        Checks.due("8: day 2000", 0, () -> field.pass(1));
        Checks.due("8: is today", 2000, () -> field.field(0));
        Checks.due("8: one more", Checks.STATE, () -> field.pass(1));
    }

    private static void rules() {
        Steplode field = new Steplode();
        Checks.due("9: fall before", 10, () -> field.rules(30, 99));
        Checks.due("9: fall", 30, () -> field.field(7));
        Checks.due("9: price", 99, () -> field.field(8));
        Checks.due("9: fall before, told last", 30, () -> field.rules(1, 1));
        Checks.due("9: the least fall", 1, () -> field.field(7));
        Checks.due("9: the least price", 1, () -> field.field(8));
        field.rules(10, 20);
        field.sample(14);
        field.rules(11, 21);
        Checks.due("9: samples stay", 1, () -> field.field(1));
    }

    private static void claimFacts() {
        Steplode field = new Steplode();
        field.pass(5);
        field.stake(3, 13, 22);
        field.stake(2, 12, 12);
        field.pass(12);
        // The places 14 and 15 to 16 have 100, 50 and 33 grains; those of the row below none.
        int[] want = {3, 8, 13, 22, 0, 12, 183, 1};
        for (int what = 0; what <= 7; what++) {
            int asked = what;
            Checks.due("14: fact " + what, want[what], () -> field.ofClaim(0, asked));
        }
        Checks.due("14: ore of a claim without grains", 0, () -> field.ofClaim(1, 6));
        Checks.due("14: it does not pay", 0, () -> field.ofClaim(1, 7));
        field.pass(50);
        Checks.due("14: days go on behind the lapse", 62, () -> field.ofClaim(0, 5));
        Checks.due("14: it has lapsed", 1, () -> field.ofClaim(0, 4));
        Checks.due("14: it has its ore still", 183, () -> field.ofClaim(0, 6));
        field.lode(12, 7);
        Checks.due("14: ore of the lode as it is now", 7, () -> field.ofClaim(1, 6));
    }

    private static void ore() {
        Steplode corner = new Steplode();
        corner.stake(0, 0, 1);
        corner.lode(0, 9);
        Checks.due("14: ore of the place 0, too", 13, () -> corner.ofClaim(0, 6));
        Steplode field = new Steplode();
        field.stake(0, 35, 35);
        field.lode(35, 3);
        Checks.due("14: 3 * 20 / 10 is more than 5", 1, () -> field.ofClaim(0, 7));
        field.lode(35, 2);
        Checks.due("14: 2 * 20 / 10 is not", 0, () -> field.ofClaim(0, 7));
        field.rules(10, 25);
        Checks.due("14: 5 is not more than 5", 0, () -> field.ofClaim(0, 7));
        field.rules(10, 29);
        Checks.due("14: 5.8 is rounded down", 0, () -> field.ofClaim(0, 7));
        field.rules(10, 30);
        Checks.due("14: 6 is more", 1, () -> field.ofClaim(0, 7));
        field.stake(0, 33, 34);
        field.lode(33, 2);
        field.rules(10, 33);
        Checks.due("14: 3 grains of two places", 3, () -> field.ofClaim(1, 6));
        Checks.due("14: 9 is not more than 10", 0, () -> field.ofClaim(1, 7));
        field.rules(10, 37);
        Checks.due("14: 11 is more than 10", 1, () -> field.ofClaim(1, 7));
    }
}
