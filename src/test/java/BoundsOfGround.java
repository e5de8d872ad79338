/** Sentences with a boundary on objects, places, heights, the lode and streams: promises 1, 2, 3, 12 and 13. */
final class BoundsOfGround {
    static final int[] NO_PLACES = {-1, 36, -36, Integer.MIN_VALUE, Integer.MAX_VALUE};
    private static final int[] ENDS = {0, 5, 30, 35};

    private BoundsOfGround() {
    }

    static void all() {
        ofTheDescription();
        ofANewObject();
        ofHeight();
        ofLode();
        ofPlace();
        ofSteps();
    }

    private static void ofTheDescription() {
        int part = Sentences.DESCRIPTION;
        Sentences.tell(part, "An object is used for at most 512 calls after it has been made",
            BoundsOfGround::theLastCall);
        Sentences.tell(part, "PLACES 0 to 35, in 6 ROWS of 6: the PLACE p is in the ROW p / 6, at p modulo 6 in it.",
            BoundsOfGround::eachPlaceIsInItsRow);
        Sentences.tell(part, "NEIGHBOURS are side by side in a ROW, or one above the other.",
            BoundsOfGround::neighboursAlone);
        Sentences.tell(part, "(0 to 99; at first 6 times the sum of (5 - its ROW) and (5 - its place in the ROW): "
            + "60 at the PLACE 0, 0 at the PLACE 35)", BoundsOfGround::heightsAtFirst);
        Sentences.tell(part, "water of a PLACE goes to the lowest NEIGHBOUR that is lower than itself",
            BoundsOfGround::toTheLowestThatIsLower);
        Sentences.tell(part, "without one it stays (a SINK)", BoundsOfGround::withoutALowerOne);
        Sentences.tell(part, "where one of several is taken and nothing else is said, it is that with the smallest "
            + "number", BoundsOfGround::ofSeveralAsLow);
        Sentences.tell(part, "how many FLOWS lead from the one to the other one (0 to itself; NONE, if they do not)",
            BoundsOfGround::stepsOfAStream);
    }

    private static void ofANewObject() {
        Sentences.tell(1, "Creates a field with its LODE.", BoundsOfGround::newObject);
    }

    private static void ofHeight() {
        Sentences.tell(2, "Tells a HEIGHT; all SAMPLES are gone.", BoundsOfGround::samplesGoWithAHeight);
        Sentences.tell(2, "Returns that before.", BoundsOfGround::heightBefore);
        Sentences.tell(2, "Throws `IndexOutOfBoundsException` if there is no such PLACE",
            BoundsOfGround::heightOfNoPlace);
        Sentences.tell(2, "Throws `IllegalArgumentException` if height is not 0 to 99", BoundsOfGround::wrongHeight);
    }

    private static void ofLode() {
        Sentences.tell(3, "Tells where the LODE is; all SAMPLES are gone.", BoundsOfGround::samplesGoWithALode);
        Sentences.tell(3, "the PLACE (14 at first)", BoundsOfGround::placeOfTheLodeAtFirst);
        Sentences.tell(3, "GRADE (100 at first)", BoundsOfGround::gradeAtFirst);
        Sentences.tell(3, "Returns the PLACE before.", BoundsOfGround::placeOfTheLodeBefore);
        Sentences.tell(3, "Throws `IndexOutOfBoundsException` if there is no such PLACE", BoundsOfGround::lodeInNoPlace);
        Sentences.tell(3, "Throws `IllegalArgumentException` if grade is not 1 to 200", BoundsOfGround::wrongGrade);
    }

    private static void ofPlace() {
        Sentences.tell(12, "1 the PLACE to which it FLOWS (NONE)", BoundsOfGround::flowsNowhere);
        Sentences.tell(12, "2 GRAINS, if it was SAMPLED (NONE)", BoundsOfGround::noSample);
        Sentences.tell(12, "3 1 if it is RULED OUT, otherwise 0", BoundsOfGround::ruledOut);
        Sentences.tell(12, "4 the CLAIM that it is in (that has not LAPSED; NONE)", BoundsOfGround::inNoClaim);
        Sentences.tell(12, "5 of how many PLACES water comes there (itself, too)", BoundsOfGround::watersFewestAndMost);
        Sentences.tell(12, "6 with how many GRADES it is POSSIBLE", BoundsOfGround::gradesFewestAndMost);
        Sentences.tell(12, "Throws `IndexOutOfBoundsException` if there is no such PLACE",
            BoundsOfGround::factOfNoPlace);
        Sentences.tell(12, "Throws `IllegalArgumentException` if what is not 0 to 6", BoundsOfGround::noSuchFact);
    }

    private static void ofSteps() {
        Sentences.tell(13, "Returns STEPS.", BoundsOfGround::stepsFewestAndMost);
        Sentences.tell(13, "Throws `IndexOutOfBoundsException` if there is no such PLACE, of both",
            BoundsOfGround::stepsOfNoPlace);
    }

    private static void theLastCall() {
        Steplode field = new Steplode();
        field.height(0, 99);
        for (int call = 1; call < 511; call++) {
            field.dig(0);
        }
        Checks.due("the 512th call: paid for 510 diggings", 510 * 109, () -> field.field(6));
        Steplode mill = new Steplode();
        for (int call = 0; call < 73; call++) {
            for (int heap = 0; heap < 6; heap++) {
                mill.heap(50, 50);
            }
            mill.mill();
        }
        Checks.due("the 512th call: all that waited", 73 * 52500, () -> mill.field(11));
    }

    private static void eachPlaceIsInItsRow() {
        for (int place = 0; place < 36; place++) {
            Steplode field = Fields.level(5);
            field.lode(place, 1);
            field.sample(place);
            for (int row = 0; row < 6; row++) {
                int asked = row;
                int star = row == place / 6 ? place % 6 : -1;
                Checks.due("the star of " + place + " in the row " + row, star, () -> field.row(asked).indexOf('*'));
                Checks.due("the signs of the row " + row, 6, () -> field.row(asked).length());
            }
        }
    }

    private static void neighboursAlone() {
        for (int low = 0; low < 36; low++) {
            Steplode field = Fields.level(50);
            field.height(low, 49);
            for (int place = 0; place < 36; place++) {
                int asked = place;
                int rows = Math.abs(place / 6 - low / 6);
                int columns = Math.abs(place % 6 - low % 6);
                int want = rows + columns == 1 ? low : -1;
                Checks.due("water of " + place + ", where " + low + " is lower", want, () -> field.ofPlace(asked, 1));
            }
        }
    }

    private static void heightsAtFirst() {
        Steplode field = new Steplode();
        int[] rows = {60, 54, 48, 42, 36, 30};
        for (int place = 0; place < 36; place++) {
            int asked = place;
            int want = rows[place / 6] - 6 * (place % 6);
            Checks.due("the height at first of " + place, want, () -> field.ofPlace(asked, 0));
        }
    }

    private static void toTheLowestThatIsLower() {
        Steplode field = Fields.level(50);
        field.height(15, 49);
        Checks.due("to one that is lower by 1", 15, () -> field.ofPlace(14, 1));
        field.height(8, 48);
        Checks.due("to the lowest, above", 8, () -> field.ofPlace(14, 1));
        field.height(13, 47);
        Checks.due("to the lowest, at the left", 13, () -> field.ofPlace(14, 1));
        field.height(20, 0);
        Checks.due("to the lowest, below, of height 0", 20, () -> field.ofPlace(14, 1));
        field.height(14, 99);
        Checks.due("from the greatest height", 20, () -> field.ofPlace(14, 1));
        field.height(14, 48);
        field.height(20, 48);
        Checks.due("to the one that is lower alone", 13, () -> field.ofPlace(14, 1));
    }

    private static void withoutALowerOne() {
        Steplode field = Fields.level(50);
        Checks.due("none is lower", -1, () -> field.ofPlace(14, 1));
        Checks.due("all are sinks", 36, () -> field.field(12));
        field.height(14, 49);
        Checks.due("all neighbours are higher", -1, () -> field.ofPlace(14, 1));
        Checks.due("but for its four neighbours", 32, () -> field.field(12));
        field.height(14, 51);
        Checks.due("all neighbours are lower", 8, () -> field.ofPlace(14, 1));
        Checks.due("it alone is none", 35, () -> field.field(12));
        Steplode flat = Fields.level(0);
        Checks.due("none is lower than 0", -1, () -> flat.ofPlace(35, 1));
    }

    private static void ofSeveralAsLow() {
        Steplode field = Fields.level(50);
        int[] sides = {20, 15, 13, 8};
        for (int side : sides) {
            field.height(side, 49);
            Checks.due("of those as low, the smallest", side, () -> field.ofPlace(14, 1));
        }
        Checks.due("the best sample of those that are as good", 0, () -> Fields.level(5).bestSample(true));
    }

    private static void stepsOfAStream() {
        Steplode field = new Steplode();
        for (int place = 0; place < 36; place++) {
            int asked = place;
            Checks.due("to itself, " + place, 0, () -> field.steps(asked, asked));
        }
        Checks.due("with the stream", 10, () -> field.steps(0, 35));
        Checks.due("against it", -1, () -> field.steps(35, 0));
        Checks.due("beside it", -1, () -> field.steps(0, 6));
        Checks.due("to where two streams join", 6, () -> field.steps(0, 11));
        Checks.due("by the other one", 5, () -> field.steps(6, 11));
        Steplode level = Fields.level(9);
        Checks.due("between two sinks side by side", -1, () -> level.steps(0, 1));
    }

    private static void newObject() {
        Steplode field = new Steplode();
        int[] facts = {0, 0, 36, -1, 0, 0, 0, 10, 20, 0, 0, 0, 1};
        for (int what = 0; what < facts.length; what++) {
            int asked = what;
            Checks.due("field " + what, facts[what], () -> field.field(asked));
        }
        Checks.due("the lode is there", true, () -> field.dig(14));
        Checks.due("and not there", false, () -> field.dig(0));
        Steplode other = Fields.busy();
        Checks.due("another object has its own field", 32, () -> other.field(0));
        Checks.due("this one has not changed", 0, () -> field.field(0));
        Checks.due("nor have new ones", new Steplode().digest(), () -> {
            Fields.allThatIsTold(Fields.busy());
            return new Steplode().digest();
        });
    }

    private static void samplesGoWithAHeight() {
        for (int place : ENDS) {
            Steplode field = new Steplode();
            for (int sampled = 0; sampled < 36; sampled++) {
                field.sample(sampled);
            }
            field.height(place, 50);
            Checks.due("how many samples", 0, () -> field.field(1));
            Checks.due("places that are not ruled out", 36, () -> field.field(2));
            Checks.due("the height", 50, () -> field.ofPlace(place, 0));
            for (int sampled = 0; sampled < 36; sampled++) {
                int asked = sampled;
                Checks.due("no sample of " + asked, -1, () -> field.ofPlace(asked, 2));
                Checks.due("all grades of " + asked, 200, () -> field.ofPlace(asked, 6));
            }
            Checks.due("sampled again", 100, () -> field.sample(14));
        }
        Steplode same = new Steplode();
        same.sample(35);
        same.height(0, 60);
        Checks.due("also with the height that it has", 0, () -> same.field(1));
    }

    private static void heightBefore() {
        for (int place : ENDS) {
            Steplode field = new Steplode();
            int first = 60 - 6 * (place / 6 + place % 6);
            Checks.due("at first", first, () -> field.height(place, 99));
            Checks.due("the greatest", 99, () -> field.height(place, 0));
            Checks.due("the least", 0, () -> field.height(place, 0));
            Checks.due("the same", 0, () -> field.height(place, 1));
        }
    }

    private static void heightOfNoPlace() {
        for (int place : NO_PLACES) {
            Checks.refused("place " + place, Checks.INDEX, Fields::busy, f -> f.height(place, 5));
            Checks.refused("ahead of a wrong height", Checks.INDEX, Fields::busy, f -> f.height(place, 100));
        }
        Checks.due("the first place", 60, () -> new Steplode().height(0, 5));
        Checks.due("the last place", 0, () -> new Steplode().height(35, 5));
    }

    private static void wrongHeight() {
        int[] wrong = {-1, 100, Integer.MIN_VALUE, Integer.MAX_VALUE};
        for (int height : wrong) {
            Checks.refused("height " + height, Checks.ARGUMENT, Fields::busy, f -> f.height(0, height));
            Checks.refused("of the last place", Checks.ARGUMENT, Fields::busy, f -> f.height(35, height));
        }
        Steplode field = new Steplode();
        for (int height = 0; height <= 99; height++) {
            int told = height;
            Checks.due("height " + height, height == 0 ? 30 : height - 1, () -> field.height(30, told));
        }
        Checks.due("the greatest height stands", 99, () -> field.ofPlace(30, 0));
    }

    private static void samplesGoWithALode() {
        for (int place : ENDS) {
            Steplode field = new Steplode();
            for (int sampled = 0; sampled < 36; sampled++) {
                field.sample(sampled);
            }
            field.lode(place, 77);
            Checks.due("how many samples", 0, () -> field.field(1));
            Checks.due("places that are not ruled out", 36, () -> field.field(2));
            Checks.due("it is there", true, () -> field.dig(place));
            Checks.due("it is not where it was", false, () -> field.dig(14));
            for (int sampled = 0; sampled < 36; sampled++) {
                int asked = sampled;
                Checks.due("no sample of " + asked, -1, () -> field.ofPlace(asked, 2));
                Checks.due("all grades of " + asked, 200, () -> field.ofPlace(asked, 6));
            }
            Checks.due("sampled again", 77, () -> field.sample(place));
        }
        Steplode same = new Steplode();
        same.sample(35);
        same.lode(14, 100);
        Checks.due("also with the lode as it is", 0, () -> same.field(1));
        Steplode grade = new Steplode();
        grade.sample(14);
        grade.lode(14, 99);
        Checks.due("also with another grade alone", 99, () -> grade.sample(14));
    }

    private static void placeOfTheLodeAtFirst() {
        Steplode field = new Steplode();
        for (int place = 0; place < 36; place++) {
            int asked = place;
            Checks.due("the lode is at " + place, place == 14, () -> field.dig(asked));
        }
        Checks.due("the place before the first that is told", 14, () -> new Steplode().lode(0, 1));
    }

    private static void gradeAtFirst() {
        Checks.due("grains of the place itself", 100, () -> new Steplode().sample(14));
        Checks.due("grains of the next one", 50, () -> new Steplode().sample(15));
    }

    private static void placeOfTheLodeBefore() {
        Steplode field = new Steplode();
        int before = 14;
        for (int place : ENDS) {
            Checks.due("told " + place, before, () -> field.lode(place, 1));
            before = place;
        }
        Checks.due("told the same again", 35, () -> field.lode(35, 2));
        Checks.due("it was the same", 35, () -> field.lode(0, 1));
    }

    private static void lodeInNoPlace() {
        for (int place : NO_PLACES) {
            Checks.refused("place " + place, Checks.INDEX, Fields::busy, f -> f.lode(place, 5));
            Checks.refused("ahead of a wrong grade", Checks.INDEX, Fields::busy, f -> f.lode(place, 0));
        }
        Checks.due("the first place", 14, () -> new Steplode().lode(0, 5));
        Checks.due("the last place", 14, () -> new Steplode().lode(35, 5));
    }

    private static void wrongGrade() {
        int[] wrong = {0, -1, 201, Integer.MIN_VALUE, Integer.MAX_VALUE};
        for (int grade : wrong) {
            Checks.refused("grade " + grade, Checks.ARGUMENT, Fields::busy, f -> f.lode(0, grade));
            Checks.refused("at the last place", Checks.ARGUMENT, Fields::busy, f -> f.lode(35, grade));
        }
        Steplode field = new Steplode();
        for (int grade = 1; grade <= 200; grade++) {
            int told = grade;
            field.lode(35, grade);
            Checks.due("grade " + grade, told, () -> field.sample(35));
        }
    }

    private static void flowsNowhere() {
        Steplode field = new Steplode();
        Checks.due("the sink", -1, () -> field.ofPlace(35, 1));
        Checks.due("the one at its left", 35, () -> field.ofPlace(34, 1));
        Checks.due("the one above", 35, () -> field.ofPlace(29, 1));
        Steplode level = Fields.level(9);
        level.height(0, 8);
        Checks.due("to the place 0, which is not NONE", 0, () -> level.ofPlace(1, 1));
        Checks.due("the place 0 itself", -1, () -> level.ofPlace(0, 1));
    }

    private static void noSample() {
        Steplode field = new Steplode();
        Checks.due("not sampled", -1, () -> field.ofPlace(14, 2));
        field.sample(14);
        Checks.due("sampled", 100, () -> field.ofPlace(14, 2));
        field.sample(0);
        Checks.due("sampled with none", 0, () -> field.ofPlace(0, 2));
        field.sample(35);
        Checks.due("the last place", 14, () -> field.ofPlace(35, 2));
        Checks.due("beside it", -1, () -> field.ofPlace(34, 2));
        field.dig(15);
        Checks.due("dug, but not sampled", -1, () -> field.ofPlace(15, 2));
    }

    private static void ruledOut() {
        Steplode field = new Steplode();
        Checks.due("without samples", 0, () -> field.ofPlace(0, 3));
        field.sample(15);
        Checks.due("possible with one grade", 0, () -> field.ofPlace(15, 3));
        Checks.due("possible with two", 0, () -> field.ofPlace(14, 3));
        Checks.due("possible with none", 1, () -> field.ofPlace(16, 3));
        Checks.due("possible with none, the place 0", 1, () -> field.ofPlace(0, 3));
    }

    private static void inNoClaim() {
        Steplode field = new Steplode();
        field.stake(0, 0, 0);
        field.stake(1, 35, 35);
        Checks.due("the claim 0", 0, () -> field.ofPlace(0, 4));
        Checks.due("the claim 1", 1, () -> field.ofPlace(35, 4));
        Checks.due("in none", -1, () -> field.ofPlace(1, 4));
        field.pass(29);
        Checks.due("29 days", 0, () -> field.ofPlace(0, 4));
        field.work(1);
        field.pass(1);
        Checks.due("it has lapsed", -1, () -> field.ofPlace(0, 4));
        Checks.due("it was worked", 1, () -> field.ofPlace(35, 4));
        field.stake(2, 0, 1);
        Checks.due("staked again", 2, () -> field.ofPlace(0, 4));
    }

    private static void watersFewestAndMost() {
        Steplode field = new Steplode();
        Checks.due("its own alone", 1, () -> field.ofPlace(0, 5));
        Checks.due("its own and one more", 2, () -> field.ofPlace(1, 5));
        Checks.due("all", 36, () -> field.ofPlace(35, 5));
        Steplode level = Fields.level(9);
        Checks.due("its own, where nothing flows", 1, () -> level.ofPlace(35, 5));
        level.height(14, 0);
        Checks.due("its own and its neighbours'", 5, () -> level.ofPlace(14, 5));
    }

    private static void gradesFewestAndMost() {
        Steplode field = new Steplode();
        Checks.due("all", 200, () -> field.ofPlace(0, 6));
        field.sample(0);
        Checks.due("none", 0, () -> field.ofPlace(0, 6));
        Checks.due("all, beside it", 200, () -> field.ofPlace(1, 6));
        field.sample(14);
        Checks.due("one", 1, () -> field.ofPlace(14, 6));
        Checks.due("one, of 200", 1, () -> field.ofPlace(13, 6));
        Checks.due("none, of 300", 0, () -> field.ofPlace(12, 6));
    }

    private static void factOfNoPlace() {
        for (int place : NO_PLACES) {
            for (int what = -1; what <= 7; what++) {
                int asked = what;
                Checks.refused("place " + place + ", what " + what, Checks.INDEX, Fields::busy,
                    f -> f.ofPlace(place, asked));
            }
        }
        Checks.due("the first place", 60, () -> new Steplode().ofPlace(0, 0));
        Checks.due("the last place", 0, () -> new Steplode().ofPlace(35, 0));
    }

    private static void noSuchFact() {
        int[] wrong = {-1, 7, Integer.MIN_VALUE, Integer.MAX_VALUE};
        for (int what : wrong) {
            Checks.refused("what " + what, Checks.ARGUMENT, Fields::busy, f -> f.ofPlace(0, what));
            Checks.refused("of the last place", Checks.ARGUMENT, Fields::busy, f -> f.ofPlace(35, what));
        }
        Checks.due("the first fact", 6, () -> new Steplode().ofPlace(34, 0));
        Checks.due("the last fact", 200, () -> new Steplode().ofPlace(34, 6));
    }

    private static void stepsFewestAndMost() {
        Steplode field = Fields.longestStream();
        for (int nth = 0; nth < Fields.LONGEST.length; nth++) {
            int place = Fields.LONGEST[nth];
            Checks.due("along the longest stream", nth, () -> field.steps(0, place));
            Checks.due("to its end", Fields.LONGEST.length - 1 - nth, () -> field.steps(place, 29));
            Checks.due("back", nth == 0 ? 0 : -1, () -> field.steps(place, 0));
        }
    }

    private static void stepsOfNoPlace() {
        for (int place : NO_PLACES) {
            Checks.refused("from " + place, Checks.INDEX, Fields::busy, f -> f.steps(place, 0));
            Checks.refused("to " + place, Checks.INDEX, Fields::busy, f -> f.steps(35, place));
            Checks.refused("both " + place, Checks.INDEX, Fields::busy, f -> f.steps(place, place));
        }
        Checks.due("the last place", 0, () -> new Steplode().steps(35, 35));
        Checks.due("the first place", 0, () -> new Steplode().steps(0, 0));
    }
}
