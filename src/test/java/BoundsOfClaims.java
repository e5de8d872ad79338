/** Sentences with a boundary on claims, days, rules and ore: promises 6, 7, 8, 9 and 14, and of 15 what tells them. */
final class BoundsOfClaims {
    private static final int[] NO_PROSPECTORS = {-1, 4, Integer.MIN_VALUE, Integer.MAX_VALUE};

    private BoundsOfClaims() {
    }

    static void all() {
        ofTheDescription();
        ofStake();
        ofWork();
        ofPass();
        ofRules();
        ofClaim();
        ofField();
    }

    private static void ofTheDescription() {
        int part = Sentences.DESCRIPTION;
        Sentences.tell(part, "TODAY is 0 at first, 2000 at most.", BoundsOfClaims::firstAndLastDay);
        Sentences.tell(part, "PROSPECTORS 0 to 3.", BoundsOfClaims::firstAndLastProspector);
        Sentences.tell(part, "A CLAIM: at most 8 ever, numbered from 0, of a PROSPECTOR",
            BoundsOfClaims::eightClaimsEver);
        Sentences.tell(part, "a rectangle of PLACES (from one PLACE at its upper left to one at its lower right; 9 "
            + "PLACES at most)", BoundsOfClaims::allRectangles);
        Sentences.tell(part, "none of them in another CLAIM that has not LAPSED", BoundsOfClaims::allThatOverlap);
        Sentences.tell(part, "It LAPSES, if on TODAY 30 DAYS or more have gone by since it was staked, or WORKED last "
            + "(on the DAY itself 0 have).", BoundsOfClaims::lapsesOnTheThirtiethDay);
        Sentences.tell(part, "To WORK a CLAIM that has not LAPSED: its days begin anew.", BoundsOfClaims::daysBeginAnew);
        Sentences.tell(part, "A PROSPECTOR has 3 CLAIMS at most that have not LAPSED.",
            BoundsOfClaims::threeOfAProspector);
        Sentences.tell(part, "ORE of a CLAIM: GRAINS of its PLACES together.", BoundsOfClaims::oreFewestAndMost);
        Sentences.tell(part, "It PAYS, if ORE * PRICE / 10 (PRICE 1 to 99; 20 at first) is more than 5 for each of its "
            + "PLACES.", BoundsOfClaims::paysIfMore);
    }

    private static void ofStake() {
        Sentences.tell(6, "Returns its number.", BoundsOfClaims::numbersOfClaims);
        Sentences.tell(6, "Throws `IndexOutOfBoundsException` if prospector is not 0 to 3, or there is no such PLACE, "
            + "of both", BoundsOfClaims::stakeOfNobodyOrNowhere);
        Sentences.tell(6, "Throws `IllegalArgumentException` if to is in a ROW above from, or farther left, or these "
            + "are more than 9 PLACES", BoundsOfClaims::stakeNoRectangle);
        Sentences.tell(6, "Throws `IllegalStateException` if there are 8, one of them is in a CLAIM that has not "
            + "LAPSED, or the PROSPECTOR has 3 of these", BoundsOfClaims::stakeNotAsThingsStand);
    }

    private static void ofWork() {
        Sentences.tell(7, "Returns how many DAYS had gone by.", BoundsOfClaims::daysThatHadGoneBy);
        Sentences.tell(7, "Throws `IndexOutOfBoundsException` if there is no such CLAIM", BoundsOfClaims::workNoClaim);
        Sentences.tell(7, "Throws `IllegalStateException` if it has LAPSED", BoundsOfClaims::workOneThatLapsed);
    }

    private static void ofPass() {
        Sentences.tell(8, "Returns how many CLAIMS LAPSED by that.", BoundsOfClaims::howManyLapsed);
        Sentences.tell(8, "Throws `IllegalArgumentException` if days is not 1 to 100", BoundsOfClaims::wrongDays);
        Sentences.tell(8, "Throws `IllegalStateException` if TODAY would be above 2000",
            BoundsOfClaims::behindTheLastDay);
    }

    private static void ofRules() {
        Sentences.tell(9, "Returns FALL before.", BoundsOfClaims::fallBefore);
        Sentences.tell(9, "Throws `IllegalArgumentException` if fall is not 1 to 30, or price not 1 to 99",
            BoundsOfClaims::wrongRules);
    }

    private static void ofClaim() {
        Sentences.tell(14, "0 its PROSPECTOR, 1 how many PLACES it has, 2 the smallest one, 3 the greatest one",
            BoundsOfClaims::claimsAtTheEnds);
        Sentences.tell(14, "4 1 if it has LAPSED, otherwise 0", BoundsOfClaims::lapsedOrNot);
        Sentences.tell(14, "5 how many DAYS have gone by", BoundsOfClaims::daysFewestAndMost);
        Sentences.tell(14, "6 ORE", BoundsOfClaims::oreOfOneThatLapsed);
        Sentences.tell(14, "7 1 if it PAYS, otherwise 0", BoundsOfClaims::paysOrNot);
        Sentences.tell(14, "Throws `IndexOutOfBoundsException` if there is no such CLAIM",
            BoundsOfClaims::factOfNoClaim);
        Sentences.tell(14, "Throws `IllegalArgumentException` if what is not 0 to 7", BoundsOfClaims::noSuchFact);
    }

    private static void ofField() {
        Sentences.tell(15, "0 TODAY", BoundsOfClaims::today);
        Sentences.tell(15, "4 CLAIMS that have not LAPSED, 5 CLAIMS ever", BoundsOfClaims::claimsNowAndEver);
        Sentences.tell(15, "7 FALL, 8 PRICE", BoundsOfClaims::rulesNow);
    }

    private static Steplode onDay(int day) {
        Steplode field = new Steplode();
        for (int today = 0; today < day; today += Math.min(100, day - today)) {
            field.pass(Math.min(100, day - today));
        }
        return field;
    }

    private static Steplode withClaim(int from, int to) {
        Steplode field = new Steplode();
        field.stake(0, from, to);
        return field;
    }

    private static void firstAndLastDay() {
        Checks.due("at first", 0, () -> new Steplode().field(0));
        Steplode field = onDay(1999);
        Checks.due("the day ahead of the last one", 1999, () -> field.field(0));
        Checks.due("to the last day", 0, () -> field.pass(1));
        Checks.due("the last day", 2000, () -> field.field(0));
        Checks.due("staked on the last day", 0, () -> field.stake(0, 0, 0));
        Checks.due("worked on the last day", 0, () -> field.work(0));
    }

    private static void firstAndLastProspector() {
        Steplode field = new Steplode();
        for (int number = 0; number < 4; number++) {
            int prospector = number;
            Checks.due("prospector " + prospector, prospector, () -> field.stake(prospector, prospector, prospector));
            Checks.due("it is his", prospector, () -> field.ofClaim(prospector, 0));
            Checks.due("he digs, too", 0, () -> field.ditch(prospector, 35, 35));
        }
        Checks.refused("-1", Checks.INDEX, Fields::busy, f -> f.stake(-1, 5, 5));
        Checks.refused("4", Checks.INDEX, Fields::busy, f -> f.stake(4, 5, 5));
    }

    private static Steplode eight() {
        Steplode field = new Steplode();
        for (int claim = 0; claim < 8; claim++) {
            field.stake(claim % 4, claim, claim);
        }
        return field;
    }

    private static Steplode eightThatLapsed() {
        Steplode field = eight();
        field.pass(100);
        return field;
    }

    private static void eightClaimsEver() {
        Steplode field = new Steplode();
        for (int claim = 0; claim < 8; claim++) {
            int number = claim;
            Checks.due("the claim " + claim, number, () -> field.stake(number % 4, number, number));
        }
        Checks.due("all eight", 8, () -> field.field(5));
        Checks.refused("a ninth", Checks.STATE, BoundsOfClaims::eight, f -> f.stake(0, 35, 35));
        Checks.refused("ever: though all have lapsed", Checks.STATE, BoundsOfClaims::eightThatLapsed,
            f -> f.stake(0, 35, 35));
    }

    private static void allRectangles() {
        for (int first = 0; first < 36; first++) {
            for (int last = 0; last < 36; last++) {
                int from = first;
                int to = last;
                int rows = to / 6 - from / 6 + 1;
                int columns = to % 6 - from % 6 + 1;
                boolean isOne = rows > 0 && columns > 0 && rows * columns <= 9;
                Steplode field = new Steplode();
                String what = from + " to " + to;
                Checks.due(what, isOne ? "0" : Checks.ARGUMENT, () -> field.stake(0, from, to));
                Checks.due(what + ", how many claims", isOne ? 1 : 0, () -> field.field(5));
                if (isOne) {
                    Checks.due(what + ", how many places", rows * columns, () -> field.ofClaim(0, 1));
                }
            }
        }
        Steplode field = withClaim(7, 20);
        for (int place = 0; place < 36; place++) {
            int asked = place;
            boolean isInside = place / 6 >= 1 && place / 6 <= 3 && place % 6 >= 1 && place % 6 <= 2;
            Checks.due("7 to 20, place " + place, isInside ? 0 : -1, () -> field.ofPlace(asked, 4));
        }
    }

    private static void allThatOverlap() {
        for (int place = 0; place < 36; place++) {
            int asked = place;
            boolean isFree = place / 6 < 1 || place / 6 > 3 || place % 6 < 1 || place % 6 > 2;
            Checks.due("7 to 20 is staked, then " + place, isFree ? "1" : Checks.STATE,
                () -> withClaim(7, 20).stake(1, asked, asked));
            Checks.due("his own, too", isFree ? "1" : Checks.STATE, () -> withClaim(7, 20).stake(0, asked, asked));
        }
        Checks.refused("the last of nine is taken", Checks.STATE, () -> withClaim(14, 14), f -> f.stake(1, 0, 14));
        Checks.refused("the first of nine", Checks.STATE, () -> withClaim(0, 0), f -> f.stake(1, 0, 14));
        Checks.refused("the upper right of nine", Checks.STATE, () -> withClaim(2, 5), f -> f.stake(1, 0, 14));
        Checks.refused("the place 35", Checks.STATE, () -> withClaim(35, 35), f -> f.stake(1, 28, 35));
        Checks.due("beside nine", 1, () -> withClaim(0, 14).stake(1, 3, 15));
        Checks.due("below nine", 1, () -> withClaim(0, 14).stake(1, 18, 20));
        Steplode field = withClaim(0, 14);
        field.pass(30);
        Checks.due("in one that has lapsed", 1, () -> field.stake(1, 0, 14));
        Checks.due("in one behind one that has lapsed", Checks.STATE, () -> field.stake(2, 14, 14));
    }

    private static void lapsesOnTheThirtiethDay() {
        Steplode field = withClaim(0, 0);
        Checks.due("on the day itself", 0, () -> field.ofClaim(0, 5));
        for (int day = 1; day <= 31; day++) {
            int today = day;
            Checks.due("lapses on the day " + day, day == 30 ? 1 : 0, () -> field.pass(1));
            Checks.due("days gone by", today, () -> field.ofClaim(0, 5));
            Checks.due("has lapsed on the day " + day, day >= 30 ? 1 : 0, () -> field.ofClaim(0, 4));
        }
        Steplode worked = withClaim(0, 0);
        worked.pass(29);
        Checks.due("worked on the last day", 29, () -> worked.work(0));
        Checks.due("29 days behind that", 0, () -> worked.pass(29));
        Checks.due("30 days behind that", 1, () -> worked.pass(1));
        Steplode late = onDay(50);
        late.stake(0, 0, 0);
        Checks.due("staked late, 29 days", 0, () -> late.pass(29));
        Checks.due("staked late, 30 days", 1, () -> late.pass(1));
        Checks.due("far more days at once", 1, () -> withClaim(0, 0).pass(100));
    }

    private static void daysBeginAnew() {
        Steplode field = withClaim(0, 0);
        field.stake(1, 1, 1);
        field.pass(29);
        field.work(0);
        Checks.due("of that which is worked", 0, () -> field.ofClaim(0, 5));
        Checks.due("not of the other one", 29, () -> field.ofClaim(1, 5));
        Checks.due("the other one lapses", 1, () -> field.pass(1));
        Checks.due("this one does not", 0, () -> field.ofClaim(0, 4));
        Steplode lapsed = withClaim(0, 0);
        lapsed.pass(30);
        Checks.due("one that has lapsed is not worked", Checks.STATE, () -> lapsed.work(0));
        Checks.due("nor do its days begin anew", 30, () -> lapsed.ofClaim(0, 5));
    }

    private static Steplode threeOf(int prospector) {
        Steplode field = new Steplode();
        for (int place = 0; place < 3; place++) {
            field.stake(prospector, place, place);
        }
        return field;
    }

    private static void threeOfAProspector() {
        for (int number = 0; number < 4; number++) {
            int prospector = number;
            Checks.due("the third one", 3, () -> threeOf(prospector).field(4));
            Checks.refused("a fourth one", Checks.STATE, () -> threeOf(prospector), f -> f.stake(prospector, 9, 9));
            Checks.due("of another one", 3, () -> threeOf(prospector).stake((prospector + 1) % 4, 9, 9));
        }
        Steplode field = threeOf(0);
        field.pass(29);
        field.work(0);
        field.work(1);
        field.pass(1);
        Checks.due("one of three has lapsed", 3, () -> field.stake(0, 9, 9));
        Checks.due("three again", Checks.STATE, () -> field.stake(0, 10, 10));
    }

    private static void oreFewestAndMost() {
        Steplode field = withClaim(0, 14);
        field.lode(35, 200);
        Checks.due("none", 0, () -> field.ofClaim(0, 6));
        field.lode(0, 200);
        Checks.due("of its first row: 200, 100 and 66", 366, () -> field.ofClaim(0, 6));
        field.lode(14, 200);
        Checks.due("of its last place alone", 200, () -> field.ofClaim(0, 6));
        field.height(0, 0);
        field.lode(0, 7);
        Checks.due("of a sink in it alone", 7, () -> field.ofClaim(0, 6));
        Steplode one = withClaim(35, 35);
        one.lode(35, 1);
        Checks.due("the least of one place", 1, () -> one.ofClaim(0, 6));
        one.sample(35);
        Checks.due("a sample takes nothing away", 1, () -> one.ofClaim(0, 6));
    }

    private static int pays(int place, int grade, int price) {
        Steplode field = withClaim(place, place);
        field.lode(place, grade);
        field.rules(10, price);
        return field.ofClaim(0, 7);
    }

    private static void paysIfMore() {
        Steplode first = withClaim(35, 35);
        first.lode(35, 2);
        Checks.due("at first the price is 20: 4 is not more than 5", 0, () -> first.ofClaim(0, 7));
        first.lode(35, 3);
        Checks.due("at first the price is 20: 6 is", 1, () -> first.ofClaim(0, 7));
        Checks.due("50 / 10 is not more than 5", 0, () -> pays(35, 2, 25));
        Checks.due("59 / 10 is rounded down", 0, () -> pays(35, 1, 59));
        Checks.due("60 / 10 is more", 1, () -> pays(35, 1, 60));
        Checks.due("the least price: 59 / 10", 0, () -> pays(35, 59, 1));
        Checks.due("the least price: 60 / 10", 1, () -> pays(35, 60, 1));
        Checks.due("the greatest price: 99 / 10", 1, () -> pays(35, 1, 99));
        Checks.due("the least of all", 0, () -> pays(35, 1, 1));
        Steplode nine = withClaim(0, 14);
        nine.lode(14, 45);
        nine.rules(10, 10);
        Checks.due("45 of nine places", 0, () -> nine.ofClaim(0, 7));
        nine.lode(14, 46);
        Checks.due("46 of nine places", 1, () -> nine.ofClaim(0, 7));
        nine.lode(14, 200);
        nine.rules(10, 99);
        Checks.due("the most", 1, () -> nine.ofClaim(0, 7));
    }

    private static void numbersOfClaims() {
        Steplode field = new Steplode();
        Checks.due("the first", 0, () -> field.stake(3, 35, 35));
        Checks.due("one is refused", Checks.STATE, () -> field.stake(3, 35, 35));
        Checks.due("it took no number", 1, () -> field.stake(3, 0, 0));
        field.pass(30);
        Checks.due("those that lapsed keep theirs", 2, () -> field.stake(3, 35, 35));
        Checks.due("the first one's place", 35, () -> field.ofClaim(0, 2));
        Checks.due("the second one's place", 0, () -> field.ofClaim(1, 2));
    }

    private static void stakeOfNobodyOrNowhere() {
        for (int prospector : NO_PROSPECTORS) {
            Checks.refused("prospector " + prospector, Checks.INDEX, Fields::busy, f -> f.stake(prospector, 5, 5));
            Checks.refused("ahead of no rectangle", Checks.INDEX, Fields::busy, f -> f.stake(prospector, 5, 0));
            Checks.refused("ahead of a taken place", Checks.INDEX, Fields::busy, f -> f.stake(prospector, 35, 35));
            Checks.refused("ahead of a ninth", Checks.INDEX, BoundsOfClaims::eight, f -> f.stake(prospector, 9, 9));
        }
        for (int place : BoundsOfGround.NO_PLACES) {
            Checks.refused("from " + place, Checks.INDEX, Fields::busy, f -> f.stake(0, place, 5));
            Checks.refused("to " + place, Checks.INDEX, Fields::busy, f -> f.stake(0, 5, place));
            Checks.refused("both " + place, Checks.INDEX, Fields::busy, f -> f.stake(3, place, place));
            Checks.refused("to, ahead of a taken place", Checks.INDEX, Fields::busy, f -> f.stake(0, 35, place));
            Checks.refused("from, ahead of a ninth", Checks.INDEX, BoundsOfClaims::eight, f -> f.stake(0, place, 9));
        }
    }

    private static void stakeNoRectangle() {
        int[][] wrong = {{6, 0}, {35, 29}, {1, 0}, {35, 34}, {7, 2}, {2, 7}, {35, 0}, {0, 35}, {0, 10}, {0, 25},
            {0, 15}, {0, 20}, {20, 35}};
        for (int[] w : wrong) {
            String what = w[0] + " to " + w[1];
            Checks.refused(what, Checks.ARGUMENT, Fields::busy, f -> f.stake(3, w[0], w[1]));
            Checks.refused(what + ", ahead of a ninth", Checks.ARGUMENT, BoundsOfClaims::eight,
                f -> f.stake(3, w[0], w[1]));
        }
        Checks.refused("ahead of a fourth one", Checks.ARGUMENT, () -> threeOf(2), f -> f.stake(2, 9, 8));
        Checks.refused("ahead of taken places", Checks.ARGUMENT, () -> threeOf(2), f -> f.stake(0, 0, 35));
    }

    private static void stakeNotAsThingsStand() {
        Checks.refused("there are 8", Checks.STATE, BoundsOfClaims::eight, f -> f.stake(3, 35, 35));
        Checks.refused("there are 8 that have lapsed", Checks.STATE, BoundsOfClaims::eightThatLapsed,
            f -> f.stake(3, 35, 35));
        Checks.refused("a place is taken", Checks.STATE, Fields::busy, f -> f.stake(3, 13, 13));
        Checks.refused("it has 3", Checks.STATE, () -> threeOf(3), f -> f.stake(3, 35, 35));
        Checks.refused("it has 3, and the place is taken", Checks.STATE, () -> threeOf(3), f -> f.stake(3, 0, 0));
        Checks.due("where one has lapsed", 3, () -> Fields.busy().stake(3, 0, 1));
        Checks.due("where none was", 3, () -> Fields.busy().stake(3, 5, 5));
        Steplode seven = new Steplode();
        for (int claim = 0; claim < 7; claim++) {
            seven.stake(claim % 4, claim, claim);
        }
        Checks.due("there are 7", 7, () -> seven.stake(3, 35, 35));
        Steplode two = new Steplode();
        two.stake(3, 0, 0);
        two.stake(3, 1, 1);
        Checks.due("it has 2", 2, () -> two.stake(3, 35, 35));
    }

    private static void daysThatHadGoneBy() {
        Steplode field = withClaim(0, 0);
        Checks.due("none", 0, () -> field.work(0));
        field.pass(1);
        Checks.due("one", 1, () -> field.work(0));
        Checks.due("none since that", 0, () -> field.work(0));
        field.pass(29);
        Checks.due("the most", 29, () -> field.work(0));
        Checks.due("the last claim of eight", 0, () -> eight().work(7));
    }

    private static void workNoClaim() {
        int[] wrong = {-1, 3, 7, 8, Integer.MIN_VALUE, Integer.MAX_VALUE};
        for (int claim : wrong) {
            Checks.refused("claim " + claim + " of three", Checks.INDEX, Fields::busy, f -> f.work(claim));
        }
        Checks.refused("claim 0 of none", Checks.INDEX, Steplode::new, f -> f.work(0));
        Checks.refused("claim 8 of eight", Checks.INDEX, BoundsOfClaims::eight, f -> f.work(8));
        Checks.due("claim 2 of three", 12, () -> Fields.busy().work(2));
    }

    private static void workOneThatLapsed() {
        Checks.refused("32 days", Checks.STATE, Fields::busy, f -> f.work(0));
        Checks.refused("30 days", Checks.STATE, () -> {
            Steplode field = withClaim(35, 35);
            field.pass(30);
            return field;
        }, f -> f.work(0));
        Checks.refused("all of eight", Checks.STATE, BoundsOfClaims::eightThatLapsed, f -> f.work(7));
        Steplode field = withClaim(0, 0);
        field.pass(29);
        Checks.due("29 days", 29, () -> field.work(0));
    }

    private static void howManyLapsed() {
        Checks.due("there are none", 0, () -> new Steplode().pass(100));
        Checks.due("29 days", 0, () -> eight().pass(29));
        Checks.due("all eight", 8, () -> eight().pass(30));
        Checks.due("those that had lapsed count no more", 0, () -> eightThatLapsed().pass(100));
        Steplode field = withClaim(0, 0);
        field.pass(1);
        field.stake(1, 1, 1);
        Checks.due("29 and 28 days", 0, () -> field.pass(28));
        Checks.due("30 and 29 days: the first one", 1, () -> field.pass(1));
        Checks.due("31 and 30 days: the second one", 1, () -> field.pass(1));
        Checks.due("neither again", 0, () -> field.pass(30));
    }

    private static void wrongDays() {
        int[] wrong = {0, -1, 101, Integer.MIN_VALUE, Integer.MAX_VALUE};
        for (int days : wrong) {
            Checks.refused(days + " days", Checks.ARGUMENT, Fields::busy, f -> f.pass(days));
            Checks.refused("ahead of the last day", Checks.ARGUMENT, () -> onDay(2000), f -> f.pass(days));
        }
        Steplode field = new Steplode();
        field.pass(1);
        Checks.due("the fewest", 1, () -> field.field(0));
        field.pass(100);
        Checks.due("the most", 101, () -> field.field(0));
    }

    private static void behindTheLastDay() {
        Checks.refused("day 2001 from 2000", Checks.STATE, () -> onDay(2000), f -> f.pass(1));
        Checks.refused("day 2001 from 1901", Checks.STATE, () -> onDay(1901), f -> f.pass(100));
        Checks.refused("day 2100", Checks.STATE, () -> onDay(2000), f -> f.pass(100));
        Checks.due("day 2000 from 1900", 2000, () -> {
            Steplode field = onDay(1900);
            field.pass(100);
            return field.field(0);
        });
        Steplode field = onDay(1980);
        field.stake(0, 0, 0);
        Checks.due("refused with a claim", Checks.STATE, () -> field.pass(30));
        Checks.due("it has not lapsed", 0, () -> field.ofClaim(0, 4));
        Checks.due("day 2000 from 1980", 0, () -> field.pass(20));
        Checks.due("20 days", 20, () -> field.ofClaim(0, 5));
    }

    private static void fallBefore() {
        Steplode field = new Steplode();
        Checks.due("at first", 10, () -> field.rules(30, 1));
        Checks.due("the greatest", 30, () -> field.rules(1, 99));
        Checks.due("the least", 1, () -> field.rules(1, 50));
        Checks.due("the same", 1, () -> field.rules(10, 20));
        Checks.due("fall now", 10, () -> field.field(7));
        Checks.due("price now", 20, () -> field.field(8));
    }

    private static void wrongRules() {
        int[] falls = {0, -1, 31, Integer.MIN_VALUE, Integer.MAX_VALUE};
        for (int fall : falls) {
            Checks.refused("fall " + fall, Checks.ARGUMENT, Fields::busy, f -> f.rules(fall, 50));
        }
        int[] prices = {0, -1, 100, Integer.MIN_VALUE, Integer.MAX_VALUE};
        for (int price : prices) {
            Checks.refused("price " + price, Checks.ARGUMENT, Fields::busy, f -> f.rules(5, price));
            Checks.refused("both", Checks.ARGUMENT, Fields::busy, f -> f.rules(0, price));
        }
        Steplode field = new Steplode();
        for (int price = 1; price <= 99; price++) {
            int told = price;
            int fall = 1 + price % 30;
            field.rules(fall, told);
            Checks.due("price " + price, told, () -> field.field(8));
            Checks.due("fall " + fall, fall, () -> field.field(7));
        }
    }

    private static void claimsAtTheEnds() {
        int[][] claims = {{0, 0, 1}, {35, 35, 1}, {0, 14, 9}, {21, 35, 9}, {0, 5, 6}, {5, 35, 6}, {4, 23, 8}};
        for (int[] claim : claims) {
            Steplode field = withClaim(claim[0], claim[1]);
            String what = claim[0] + " to " + claim[1];
            Checks.due(what + ", its prospector", 0, () -> field.ofClaim(0, 0));
            Checks.due(what + ", how many places", claim[2], () -> field.ofClaim(0, 1));
            Checks.due(what + ", the smallest", claim[0], () -> field.ofClaim(0, 2));
            Checks.due(what + ", the greatest", claim[1], () -> field.ofClaim(0, 3));
        }
        Steplode eight = eight();
        Checks.due("the last of eight", 7, () -> eight.ofClaim(7, 2));
        Checks.due("its prospector", 3, () -> eight.ofClaim(7, 0));
    }

    private static void lapsedOrNot() {
        Steplode field = withClaim(0, 0);
        Checks.due("on the day itself", 0, () -> field.ofClaim(0, 4));
        field.pass(29);
        Checks.due("29 days", 0, () -> field.ofClaim(0, 4));
        field.pass(1);
        Checks.due("30 days", 1, () -> field.ofClaim(0, 4));
        field.pass(100);
        Checks.due("130 days", 1, () -> field.ofClaim(0, 4));
    }

    private static void daysFewestAndMost() {
        Steplode field = withClaim(0, 0);
        Checks.due("none", 0, () -> field.ofClaim(0, 5));
        for (int times = 0; times < 20; times++) {
            field.pass(100);
        }
        Checks.due("from the first to the last day", 2000, () -> field.ofClaim(0, 5));
    }

    private static void oreOfOneThatLapsed() {
        Steplode field = withClaim(14, 16);
        Checks.due("100, 50 and 33", 183, () -> field.ofClaim(0, 6));
        field.pass(30);
        Checks.due("it has lapsed", 183, () -> field.ofClaim(0, 6));
        field.lode(16, 9);
        Checks.due("of the lode as it is", 9, () -> field.ofClaim(0, 6));
        field.height(16, 99);
        field.lode(14, 100);
        Checks.due("of heights as they are: 100 and 50", 150, () -> field.ofClaim(0, 6));
    }

    private static void paysOrNot() {
        Steplode field = withClaim(35, 35);
        Checks.due("14 grains at 20", 1, () -> field.ofClaim(0, 7));
        field.rules(10, 1);
        Checks.due("14 grains at 1", 0, () -> field.ofClaim(0, 7));
        field.rules(10, 42);
        field.pass(30);
        Checks.due("it has lapsed", 1, () -> field.ofClaim(0, 7));
        field.lode(0, 1);
        Checks.due("no ore", 0, () -> field.ofClaim(0, 7));
    }

    private static void factOfNoClaim() {
        int[] wrong = {-1, 3, 7, 8, Integer.MIN_VALUE, Integer.MAX_VALUE};
        for (int claim : wrong) {
            for (int what = -1; what <= 8; what++) {
                int asked = what;
                Checks.refused("claim " + claim + ", what " + what, Checks.INDEX, Fields::busy,
                    f -> f.ofClaim(claim, asked));
            }
        }
        Checks.refused("claim 0 of none", Checks.INDEX, Steplode::new, f -> f.ofClaim(0, 0));
        Checks.refused("claim 8 of eight", Checks.INDEX, BoundsOfClaims::eight, f -> f.ofClaim(8, 0));
        Checks.due("the last one", 34, () -> Fields.busy().ofClaim(2, 2));
    }

    private static void noSuchFact() {
        int[] wrong = {-1, 8, Integer.MIN_VALUE, Integer.MAX_VALUE};
        for (int what : wrong) {
            Checks.refused("what " + what, Checks.ARGUMENT, Fields::busy, f -> f.ofClaim(0, what));
            Checks.refused("of the last claim", Checks.ARGUMENT, Fields::busy, f -> f.ofClaim(2, what));
        }
        Checks.due("the first fact", 1, () -> Fields.busy().ofClaim(1, 0));
        Checks.due("the last fact", 1, () -> Fields.busy().ofClaim(1, 7));
    }

    private static void claimsNowAndEver() {
        Steplode field = new Steplode();
        Checks.due("none now", 0, () -> field.field(4));
        Checks.due("none ever", 0, () -> field.field(5));
        Steplode eight = eight();
        Checks.due("eight now", 8, () -> eight.field(4));
        eight.pass(29);
        eight.work(0);
        eight.work(7);
        Checks.due("all behind 29 days", 8, () -> eight.field(4));
        eight.pass(1);
        Checks.due("two behind 30 days", 2, () -> eight.field(4));
        Checks.due("eight ever", 8, () -> eight.field(5));
        eight.pass(29);
        Checks.due("none is left", 0, () -> eight.field(4));
        Checks.due("eight ever still", 8, () -> eight.field(5));
    }

    private static void rulesNow() {
        Steplode field = new Steplode();
        Checks.due("fall at first", 10, () -> field.field(7));
        Checks.due("price at first", 20, () -> field.field(8));
        field.rules(30, 1);
        Checks.due("the greatest fall", 30, () -> field.field(7));
        Checks.due("the least price", 1, () -> field.field(8));
        field.rules(1, 99);
        Checks.due("the least fall", 1, () -> field.field(7));
        Checks.due("the greatest price", 99, () -> field.field(8));
    }

    private static void today() {
        Steplode field = new Steplode();
        Checks.due("at first", 0, () -> field.field(0));
        for (int times = 1; times <= 20; times++) {
            int want = 100 * times;
            field.pass(100);
            Checks.due("behind " + want + " days", want, () -> field.field(0));
        }
        Checks.due("no further", Checks.STATE, () -> field.pass(1));
        Checks.due("the last day", 2000, () -> field.field(0));
    }
}
