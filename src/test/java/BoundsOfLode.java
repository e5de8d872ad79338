/** Sentences with a boundary on grains, samples, digging and what they leave: promises 4, 5 and 15 to 18. */
final class BoundsOfLode {
    private BoundsOfLode() {
    }

    static void all() {
        ofTheDescription();
        ofSample();
        ofDig();
        ofField();
        ofRow();
        ofBestSample();
        ofWorst();
    }

    private static void ofTheDescription() {
        int part = Sentences.DESCRIPTION;
        Sentences.tell(part, "what is divided is rounded down", BoundsOfLode::grainsAreRoundedDown);
        Sentences.tell(part, "of a GRADE (1 to 200)", BoundsOfLode::leastAndGreatestGrade);
        Sentences.tell(part, "GRAINS at a PLACE are GRADE / (1 and STEPS from the LODE to it), or 0, if its water does "
            + "not come there.", BoundsOfLode::grainsDownTheLongestStream);
        Sentences.tell(part, "(kept; a PLACE that was SAMPLED is not SAMPLED again till the LODE, or a HEIGHT, is told "
            + "anew: then all SAMPLES are gone)", BoundsOfLode::sampledButOnce);
        Sentences.tell(part, "A PLACE is POSSIBLE with a GRADE of 1 to 200, if a LODE there of it would have given "
            + "just all SAMPLES", BoundsOfLode::gradesAtTheirBounds);
        Sentences.tell(part, "a PLACE is RULED OUT, if it is POSSIBLE with none", BoundsOfLode::ruledOutWithNone);
        Sentences.tell(part, "It is FOUND, if one PLACE alone is not RULED OUT.", BoundsOfLode::foundWithOne);
        Sentences.tell(part, "BEST SAMPLE: of all PLACES that were not SAMPLED that behind which, at the worst, the "
            + "fewest PLACES are not RULED OUT (of all GRAINS that can be, by what is POSSIBLE).",
            BoundsOfLode::bestOfThoseNotSampled);
        Sentences.tell(part, "To DIG a PLACE costs 10 and its HEIGHT", BoundsOfLode::costOfDigging);
        Sentences.tell(part, "(A PLACE that was dug is only RULED OUT by SAMPLES.)", BoundsOfLode::dugIsNotRuledOut);
    }

    private static void ofSample() {
        Sentences.tell(4, "Returns its GRAINS.", BoundsOfLode::grainsFewestAndMost);
        Sentences.tell(4, "Throws `IndexOutOfBoundsException` if there is no such PLACE", BoundsOfLode::sampleOfNoPlace);
        Sentences.tell(4, "Throws `IllegalStateException` if it was SAMPLED", BoundsOfLode::sampledAlready);
    }

    private static void ofDig() {
        Sentences.tell(5, "Returns whether the LODE is there.", BoundsOfLode::digWhereItIs);
        Sentences.tell(5, "Throws `IndexOutOfBoundsException` if there is no such PLACE", BoundsOfLode::digNoPlace);
    }

    private static void ofField() {
        Sentences.tell(15, "1 SAMPLES, 2 PLACES that are not RULED OUT", BoundsOfLode::samplesAndPlacesFewestAndMost);
        Sentences.tell(15, "3 the PLACE of the LODE, if it is FOUND (NONE)", BoundsOfLode::foundOrNot);
        Sentences.tell(15, "6 what was paid for digging ever", BoundsOfLode::paidEver);
        Sentences.tell(15, "12 SINKS", BoundsOfLode::sinksFewestAndMost);
        Sentences.tell(15, "Throws `IllegalArgumentException` if what is not 0 to 12", BoundsOfLode::noSuchFact);
    }

    private static void ofRow() {
        Sentences.tell(16, "\"*\" SAMPLED with GRAINS above 0, \"o\" SAMPLED with none, otherwise \"?\" not RULED OUT, "
            + "\".\" RULED OUT.", BoundsOfLode::signs);
        Sentences.tell(16, "Throws `IndexOutOfBoundsException` if row is not 0 to 5", BoundsOfLode::noSuchRow);
    }

    private static void ofBestSample() {
        Sentences.tell(17, "whether the BEST SAMPLE (NONE, if all were SAMPLED)", BoundsOfLode::noneIsBest);
        Sentences.tell(17, "otherwise how many PLACES at the worst are not RULED OUT behind it (NONE likewise)",
            BoundsOfLode::howManyAreLeftBehindTheBest);
    }

    private static void ofWorst() {
        Sentences.tell(18, "Returns how many PLACES at the worst would not be RULED OUT, if it was SAMPLED",
            BoundsOfLode::worstFewestAndMost);
        Sentences.tell(18, "(as many as now, if it was)", BoundsOfLode::worstOfOneThatWasSampled);
        Sentences.tell(18, "Throws `IndexOutOfBoundsException` if there is no such PLACE", BoundsOfLode::worstOfNoPlace);
    }

    private static int grains(Steplode field, int lode, int grade, int place) {
        field.lode(lode, grade);
        return field.sample(place);
    }

    private static void grainsAreRoundedDown() {
        Steplode field = new Steplode();
        Checks.due("99 by 2", 49, () -> grains(field, 0, 99, 1));
        Checks.due("100 by 2", 50, () -> grains(field, 0, 100, 1));
        Checks.due("101 by 2", 50, () -> grains(field, 0, 101, 1));
        Checks.due("98 by 3", 32, () -> grains(field, 0, 98, 2));
        Checks.due("99 by 3", 33, () -> grains(field, 0, 99, 2));
        Checks.due("1 by 2", 0, () -> grains(field, 0, 1, 1));
    }

    private static void leastAndGreatestGrade() {
        Steplode field = new Steplode();
        Checks.due("1", 1, () -> grains(field, 0, 1, 0));
        Checks.due("200", 200, () -> grains(field, 35, 200, 35));
        Checks.refused("0", Checks.ARGUMENT, Fields::busy, f -> f.lode(0, 0));
        Checks.refused("201", Checks.ARGUMENT, Fields::busy, f -> f.lode(0, 201));
    }

    private static void grainsDownTheLongestStream() {
        Steplode field = Fields.longestStream();
        field.lode(0, 200);
        for (int nth = 0; nth < Fields.LONGEST.length; nth++) {
            int place = Fields.LONGEST[nth];
            Checks.due("200, behind " + nth + " steps", 200 / (1 + nth), () -> field.sample(place));
        }
        Checks.due("none on a wall beside it", 0, () -> field.sample(6));
        Checks.due("24 by 24 at its end", 1, () -> grains(field, 0, 24, 29));
        Checks.due("23 by 24", 0, () -> grains(field, 0, 23, 29));
        Checks.due("none above the lode", 0, () -> grains(field, 1, 200, 0));
        Checks.due("none on level ground", 0, () -> grains(Fields.level(7), 14, 200, 15));
    }

    private static void sampledButOnce() {
        Checks.refused("sampled", Checks.STATE, BoundsOfLode::allSampled, f -> f.sample(14));
        Steplode field = allSampled();
        Checks.due("kept", 100, () -> field.ofPlace(14, 2));
        field.lode(14, 90);
        Checks.due("the lode was told anew", 90, () -> field.sample(14));
        field.height(0, 50);
        Checks.due("a height was told anew", 90, () -> field.sample(14));
        Checks.due("that sample alone is there", 1, () -> field.field(1));
        field.pass(1);
        field.rules(5, 5);
        field.dig(14);
        field.stake(0, 14, 14);
        Checks.due("days, rules, digging and claims take none away", 1, () -> field.field(1));
        Checks.due("a refused height takes none away", Checks.ARGUMENT, () -> field.height(0, 100));
        Checks.due("it is kept", 90, () -> field.ofPlace(14, 2));
    }

    private static Steplode allSampled() {
        Steplode field = new Steplode();
        for (int place = 0; place < 36; place++) {
            field.sample(place);
        }
        return field;
    }

    private static void gradesAtTheirBounds() {
        Steplode field = new Steplode();
        field.lode(35, 100);
        field.sample(35);
        Checks.due("100 of the place itself: 100 alone", 1, () -> field.ofPlace(35, 6));
        Checks.due("100 one step above: 200, but not 201", 1, () -> field.ofPlace(34, 6));
        Checks.due("100 two steps above: not 300", 0, () -> field.ofPlace(33, 6));
        Steplode none = new Steplode();
        none.sample(5);
        Checks.due("none of the place itself: not 0", 0, () -> none.ofPlace(5, 6));
        Checks.due("none one step above: 1, but not 0", 1, () -> none.ofPlace(4, 6));
        Checks.due("none five steps above: 1 to 5", 5, () -> none.ofPlace(0, 6));
        Checks.due("none where no water comes from: 1 to 200", 200, () -> none.ofPlace(6, 6));
        Steplode wide = Fields.longestStream();
        wide.lode(0, 191);
        wide.sample(29);
        Checks.due("7 behind 23 steps: 168 to 191", 24, () -> wide.ofPlace(0, 6));
        wide.lode(0, 192);
        wide.sample(29);
        Checks.due("8 behind 23 steps: 192 to 200, but not to 215", 9, () -> wide.ofPlace(0, 6));
        wide.sample(33);
        Checks.due("9 behind 20 steps: 189 to 209, of them 192 to 200", 9, () -> wide.ofPlace(0, 6));
        wide.sample(1);
        Checks.due("96 behind one step: 192 and 193", 2, () -> wide.ofPlace(0, 6));
        wide.sample(0);
        Checks.due("192 alone", 1, () -> wide.ofPlace(0, 6));
    }

    private static void ruledOutWithNone() {
        Steplode field = new Steplode();
        field.lode(35, 100);
        field.sample(35);
        Checks.due("with one grade it is not", 0, () -> field.ofPlace(34, 3));
        Checks.due("with none it is", 1, () -> field.ofPlace(33, 3));
        Checks.due("how many are not", 3, () -> field.field(2));
        field.sample(34);
        Checks.due("a second sample leaves none", 1, () -> field.ofPlace(34, 3));
        Checks.due("but not the lode", 0, () -> field.ofPlace(35, 3));
        Steplode all = allSampled();
        for (int place = 0; place < 36; place++) {
            int asked = place;
            Checks.due("all sampled, " + place, place == 14 ? 0 : 1, () -> all.ofPlace(asked, 3));
        }
    }

    private static void foundWithOne() {
        Steplode field = Fields.level(5);
        field.lode(0, 200);
        for (int place = 35; place > 1; place--) {
            field.sample(place);
        }
        Checks.due("two are left", -1, () -> field.field(3));
        field.sample(1);
        Checks.due("one is left", 0, () -> field.field(3));
        Checks.due("with all grades", 200, () -> field.ofPlace(0, 6));
        field.height(35, 5);
        Checks.due("all are left again", -1, () -> field.field(3));
        Steplode at = Fields.level(5);
        at.sample(14);
        Checks.due("by one sample", 14, () -> at.field(3));
    }

    private static void bestOfThoseNotSampled() {
        Steplode field = new Steplode();
        field.sample(15);
        // Left are 12 of 200, 13 of 150 to 152, 14 of 100 and 101, 15 of 50.
        Checks.due("at the worst one is left", 14, () -> field.bestSample(true));
        field.sample(14);
        Checks.due("as good as all others, the smallest", 0, () -> field.bestSample(true));
        Checks.due("one is left", 1, () -> field.bestSample(false));
        Steplode level = Fields.level(5);
        level.sample(0);
        Checks.due("the smallest one was sampled", 1, () -> level.bestSample(true));
        Steplode edges = new Steplode();
        edges.lode(35, 100);
        edges.sample(35);
        // Left are 29 and 34 of 200, 35 of 100: at 29 it has 200 grains, or none from the two others.
        Checks.due("two left at the worst, the smallest of those", 29, () -> edges.bestSample(true));
        Checks.due("two", 2, () -> edges.bestSample(false));
        Checks.due("at 0 all three would be left", 3, () -> edges.worst(0));
    }

    private static void costOfDigging() {
        Steplode field = new Steplode();
        field.dig(35);
        Checks.due("of the height 0", 10, () -> field.field(6));
        field.height(0, 99);
        field.dig(0);
        Checks.due("of the height 99", 10 + 109, () -> field.field(6));
        field.height(0, 1);
        Checks.due("paid is paid", 10 + 109, () -> field.field(6));
        field.dig(0);
        Checks.due("of the height as it is", 10 + 109 + 11, () -> field.field(6));
    }

    private static void dugIsNotRuledOut() {
        Steplode field = new Steplode();
        for (int place = 0; place < 36; place++) {
            field.dig(place);
        }
        Checks.due("all were dug, none is ruled out", 36, () -> field.field(2));
        Checks.due("it is not found", -1, () -> field.field(3));
        Checks.due("nor is one in vain", 0, () -> field.ofPlace(0, 3));
        Checks.due("the lode with all its grades", 200, () -> field.ofPlace(14, 6));
        Checks.due("a row", "??????", () -> field.row(0));
        Checks.due("none was sampled", 0, () -> field.field(1));
    }

    private static void grainsFewestAndMost() {
        Steplode field = new Steplode();
        Checks.due("none, at the place 0", 0, () -> field.sample(0));
        Checks.due("those at the place 35", 14, () -> field.sample(35));
        Checks.due("the most", 200, () -> grains(field, 0, 200, 0));
        Checks.due("the fewest of the place itself", 1, () -> grains(field, 35, 1, 35));
    }

    private static void sampleOfNoPlace() {
        for (int place : BoundsOfGround.NO_PLACES) {
            Checks.refused("place " + place, Checks.INDEX, Fields::busy, f -> f.sample(place));
            Checks.refused("all sampled, place " + place, Checks.INDEX, BoundsOfLode::allSampled, f -> f.sample(place));
        }
    }

    private static void sampledAlready() {
        for (int number = 0; number < 36; number++) {
            int place = number;
            Checks.refused("place " + place, Checks.STATE, BoundsOfLode::allSampled, f -> f.sample(place));
        }
        Checks.refused("with grains", Checks.STATE, Fields::busy, f -> f.sample(15));
        Checks.refused("without", Checks.STATE, Fields::busy, f -> f.sample(0));
        Checks.due("another one", 120, () -> Fields.busy().sample(14));
        Checks.due("one that is ruled out", 0, () -> Fields.busy().sample(1));
        Checks.due("one that was dug", 0, () -> {
            Steplode field = new Steplode();
            field.dig(0);
            return field.sample(0);
        });
    }

    private static void digWhereItIs() {
        int[] ends = {0, 14, 35};
        for (int lode : ends) {
            Steplode field = new Steplode();
            field.lode(lode, 1);
            for (int place = 0; place < 36; place++) {
                int asked = place;
                Checks.due("lode " + lode + ", place " + place, place == lode, () -> field.dig(asked));
                Checks.due("also again", place == lode, () -> field.dig(asked));
            }
        }
    }

    private static void digNoPlace() {
        for (int place : BoundsOfGround.NO_PLACES) {
            Checks.refused("place " + place, Checks.INDEX, Fields::busy, f -> f.dig(place));
        }
        Checks.due("the first place", false, () -> new Steplode().dig(0));
        Checks.due("the last place", false, () -> new Steplode().dig(35));
    }

    private static void samplesAndPlacesFewestAndMost() {
        Steplode field = new Steplode();
        Checks.due("no samples", 0, () -> field.field(1));
        Checks.due("all places", 36, () -> field.field(2));
        for (int place = 0; place < 36; place++) {
            int want = place + 1;
            field.sample(place);
            Checks.due("samples", want, () -> field.field(1));
        }
        Checks.due("one place", 1, () -> field.field(2));
        Checks.due("one more is refused", Checks.STATE, () -> field.sample(35));
        Checks.due("all samples", 36, () -> field.field(1));
    }

    private static void foundOrNot() {
        int[] ends = {0, 35};
        for (int lode : ends) {
            Steplode field = Fields.level(5);
            field.lode(lode, 7);
            Checks.due("not found", -1, () -> field.field(3));
            field.sample(14);
            Checks.due("one is ruled out, it is not found", -1, () -> field.field(3));
            field.sample(lode);
            Checks.due("found", lode, () -> field.field(3));
        }
    }

    private static void paidEver() {
        Steplode field = new Steplode();
        Checks.due("nothing", 0, () -> field.field(6));
        field.dig(14);
        field.dig(14);
        Checks.due("twice, of the lode too", 2 * 46, () -> field.field(6));
        field.lode(0, 1);
        field.height(14, 0);
        field.mill();
        field.pass(100);
        Checks.due("it stays", 2 * 46, () -> field.field(6));
        Checks.refused("a refused one is not paid", Checks.INDEX, Fields::busy, f -> f.dig(36));
    }

    private static void sinksFewestAndMost() {
        Checks.due("one", 1, () -> new Steplode().field(12));
        Checks.due("all", 36, () -> Fields.level(0).field(12));
        Steplode field = new Steplode();
        field.height(0, 0);
        Checks.due("the place 0, too", 2, () -> field.field(12));
        // Black and white, as on a board: each second place is lower than all its neighbours.
        Steplode board = Fields.level(1);
        for (int place = 0; place < 36; place++) {
            board.height(place, (place / 6 + place % 6) % 2);
        }
        Checks.due("each second one", 18, () -> board.field(12));
    }

    private static void noSuchFact() {
        int[] wrong = {-1, 13, Integer.MIN_VALUE, Integer.MAX_VALUE};
        for (int what : wrong) {
            Checks.refused("what " + what, Checks.ARGUMENT, Fields::busy, f -> f.field(what));
        }
        Checks.due("the first fact", 32, () -> Fields.busy().field(0));
        Checks.due("the last fact", 1, () -> new Steplode().field(12));
    }

    private static void signs() {
        Steplode field = new Steplode();
        field.lode(14, 1);
        Checks.due("not ruled out", "??????", () -> field.row(2));
        field.sample(14);
        Checks.due("sampled with one grain", '*', () -> field.row(2).charAt(2));
        Checks.due("two places left with the grades 2 and 3, 3 to 5", "??*...", () -> field.row(2));
        field.sample(15);
        Checks.due("sampled with none, below the lode", 'o', () -> field.row(2).charAt(3));
        field.sample(12);
        Checks.due("sampled with none, above it", 'o', () -> field.row(2).charAt(0));
        Checks.due("ruled out", "......", () -> field.row(0));
        Checks.due("none goes ahead of what is ruled out", "o?*o..", () -> field.row(2));
        Steplode other = new Steplode();
        other.sample(15);
        other.sample(16);
        Checks.due("the place 15 is ruled out", 1, () -> other.ofPlace(15, 3));
        Checks.due("grains go ahead of what is ruled out", "..?**.", () -> other.row(2));
    }

    private static void noSuchRow() {
        int[] wrong = {-1, 6, Integer.MIN_VALUE, Integer.MAX_VALUE};
        for (int row : wrong) {
            Checks.refused("row " + row, Checks.INDEX, Fields::busy, f -> f.row(row));
        }
        Checks.due("the first row", "o.....", () -> Fields.busy().row(0));
        Checks.due("the last row", "......", () -> Fields.busy().row(5));
    }

    private static void noneIsBest() {
        Steplode field = Fields.level(5);
        Checks.due("none was sampled", 0, () -> field.bestSample(true));
        for (int place = 0; place < 35; place++) {
            field.sample(place);
        }
        Checks.due("all but the last one", 35, () -> field.bestSample(true));
        field.sample(35);
        Checks.due("all", -1, () -> field.bestSample(true));
        field.height(0, 5);
        Checks.due("none again", 0, () -> field.bestSample(true));
        Steplode first = Fields.level(5);
        for (int place = 35; place > 0; place--) {
            first.sample(place);
        }
        Checks.due("all but the first one", 0, () -> first.bestSample(true));
    }

    private static void howManyAreLeftBehindTheBest() {
        Steplode field = Fields.level(5);
        field.lode(35, 9);
        for (int place = 0; place < 35; place++) {
            int want = 35 - place;
            Checks.due("behind the sample of " + place, want, () -> field.bestSample(false));
            field.sample(place);
        }
        Checks.due("the last one", 1, () -> field.bestSample(false));
        field.sample(35);
        Checks.due("all were sampled", -1, () -> field.bestSample(false));
        Steplode found = Fields.level(5);
        found.sample(14);
        Checks.due("found already", 1, () -> found.bestSample(false));
    }

    private static void worstFewestAndMost() {
        Steplode level = Fields.level(5);
        Checks.due("none there leave all others", 35, () -> level.worst(0));
        Checks.due("of the last place, too", 35, () -> level.worst(35));
        Steplode slope = new Steplode();
        Checks.due("where all water comes, one grain leaves all", 36, () -> slope.worst(35));
        Checks.due("where none comes, none leave all others", 35, () -> slope.worst(0));
        slope.lode(35, 200);
        slope.sample(35);
        Checks.due("one is left", 1, () -> slope.field(2));
        Checks.due("one would be left", 1, () -> slope.worst(0));
        Steplode rich = new Steplode();
        rich.lode(12, 200);
        rich.sample(13);
        rich.sample(14);
        Checks.due("one is left, of 200 alone", 1, () -> rich.field(2));
        Checks.due("with the most grains that can be", 1, () -> rich.worst(12));
        Steplode two = new Steplode();
        two.lode(35, 100);
        two.sample(35);
        Checks.due("all three, where none give grains", 3, () -> two.worst(0));
        Checks.due("200 of one, none of two", 2, () -> two.worst(34));
        long before = two.digest();
        two.worst(34);
        Checks.due("nothing is changed", before, () -> two.digest());
    }

    private static void worstOfOneThatWasSampled() {
        Steplode field = new Steplode();
        field.sample(15);
        Checks.due("four are left", 4, () -> field.worst(15));
        field.sample(0);
        Checks.due("with none, the place 0", 4, () -> field.worst(0));
        field.sample(14);
        Checks.due("one is left", 1, () -> field.worst(15));
        Steplode level = Fields.level(5);
        level.sample(0);
        Checks.due("35 are left", 35, () -> level.worst(0));
        Checks.due("of another one 34 would be", 34, () -> level.worst(1));
    }

    private static void worstOfNoPlace() {
        for (int place : BoundsOfGround.NO_PLACES) {
            Checks.refused("place " + place, Checks.INDEX, Fields::busy, f -> f.worst(place));
        }
    }
}
