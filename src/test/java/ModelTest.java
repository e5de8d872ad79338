/** Long runs of calls on the class and on the model beside it: every answer and every exception must be the same. */
public final class ModelTest {
    private static final int RUNS = 96;
    private static final int CALLS = 512;

    private long seed;
    private Steplode field;
    private Model model;
    private String run;

    private ModelTest(int number) {
        seed = number * 1_000_003L + 17;
        field = new Steplode();
        model = new Model();
        run = "run " + number;
    }

    public static void main(String[] args) {
        for (int number = 0; number < RUNS; number++) {
            new ModelTest(number).play(number);
        }
        Checks.end();
    }

    /** Numbers that are the same in each run of the tests. */
    private int next(int below) {
        seed = seed * 6364136223846793005L + 1442695040888963407L;
        return (int) ((seed >>> 33) % below);
    }

    private int number(int least, int most) {
        return next(40) == 0 ? (next(2) == 0 ? least - 1 : most + 1) : least + next(most - least + 1);
    }

    private void play(int number) {
        int calls = 0;
        int ground = number % 4;
        for (int place = 0; place < 36 && ground > 0; place++) {
            int height = ground == 1 ? next(100) : ground == 2 ? next(3) : 50 + next(12);
            both("height", place, height, 0);
            calls++;
        }
        String[] few = {"sample", "sample", "stake", "work", "pass", "heap", "ditch", "way", "worst", "ofPlace",
            "field"};
        for (; calls < CALLS; calls++) {
            if (next(5) > 0) {
                call(few[next(few.length)]);
            } else {
                call(rare());
            }
        }
    }

    private String rare() {
        String[] rare = {"dig", "rules", "heapAt", "steps", "ofClaim", "row", "bestSample", "isSound", "digest", "mill",
            "height", "lode"};
        return rare[next(next(4) == 0 ? rare.length : rare.length - 2)];
    }

    private void call(String name) {
        int place = number(0, 35);
        switch (name) {
            case "height": both(name, place, number(0, 99), 0); break;
            case "lode": both(name, place, number(1, 200), 0); break;
            case "stake": stake(); break;
            case "work": both(name, number(0, 7), 0, 0); break;
            case "pass": both(name, next(4) > 0 ? 1 + next(9) : number(1, 100), 0, 0); break;
            case "rules": both(name, number(1, 30), number(1, 99), 0); break;
            case "heap": heap(); break;
            case "ofPlace": both(name, place, number(0, 6), 0); break;
            case "steps": both(name, place, number(0, 35), 0); break;
            case "ofClaim": both(name, number(0, 7), number(0, 7), 0); break;
            case "field": both(name, number(0, 12), 0, 0); break;
            case "row": both(name, number(0, 5), 0, 0); break;
            case "bestSample": both(name, next(2), 0, 0); break;
            case "ditch":
            case "way": both(name, number(0, 3), place, next(3) == 0 ? 35 : number(0, 35)); break;
            case "heapAt": both(name, number(0, 5), 0, 0); break;
            default: both(name, place, 0, 0); break;
        }
    }

    private void stake() {
        int from = number(0, 35);
        both("stake", number(0, 3), from, next(4) == 0 ? number(0, 35) : from + next(3) + 6 * next(3));
    }

    private void heap() {
        if (next(2) == 0) {
            both("heap", number(1, 50), number(1, 50), 0);
        } else {
            both("heap", 1 + next(3), 1 + next(3), 0);
        }
    }

    private void both(String name, int a, int b, int c) {
        String call = run + ": " + name + " of " + a + ", " + b + ", " + c;
        String want = Checks.outcome(() -> ofModel(name, a, b, c));
        Checks.same(call, want, Checks.outcome(() -> ofField(name, a, b, c)));
    }

    private Object ofField(String name, int a, int b, int c) {
        switch (name) {
            case "height": return field.height(a, b);
            case "lode": return field.lode(a, b);
            case "sample": return field.sample(a);
            case "dig": return field.dig(a);
            case "stake": return field.stake(a, b, c);
            case "work": return field.work(a);
            case "pass": return field.pass(a);
            case "rules": return field.rules(a, b);
            case "heap": return field.heap(a, b);
            case "mill": return field.mill();
            case "ofPlace": return field.ofPlace(a, b);
            case "steps": return field.steps(a, b);
            case "ofClaim": return field.ofClaim(a, b);
            case "field": return field.field(a);
            case "row": return field.row(a);
            case "bestSample": return field.bestSample(a == 0);
            case "worst": return field.worst(a);
            case "ditch": return field.ditch(a, b, c);
            case "way": return field.way(a, b, c);
            case "heapAt": return field.heapAt(a);
            case "isSound": return field.isSound();
            case "digest": return field.digest();
            default: throw new UnsupportedOperationException(name);
        }
    }

    private Object ofModel(String name, int a, int b, int c) {
        switch (name) {
            case "height": return model.height(a, b);
            case "lode": return model.lode(a, b);
            case "sample": return model.sample(a);
            case "dig": return model.dig(a);
            case "stake": return model.stake(a, b, c);
            case "work": return model.work(a);
            case "pass": return model.pass(a);
            case "rules": return model.rules(a, b);
            case "heap": return model.heap(a, b);
            case "mill": return model.mill();
            case "ofPlace": return model.ofPlace(a, b);
            case "steps": return model.steps(a, b);
            case "ofClaim": return model.ofClaim(a, b);
            case "field": return model.field(a);
            case "row": return model.row(a);
            case "bestSample": return model.bestSample(a == 0);
            case "worst": return model.worst(a);
            case "ditch": return model.ditch(a, b, c);
            case "way": return model.way(a, b, c);
            case "heapAt": return model.heapAt(a);
            case "isSound": return model.isSound();
            case "digest": return model.digest();
            default: throw new UnsupportedOperationException("model " + name);
        }
    }
}
