import java.util.ArrayList;
import java.util.List;

/** Of a call to which several refusals fit, the first is answered; and a refused call changes nothing that any call can tell. */
final class RefusalSentences extends Asking {
    private static final int MIN = Integer.MIN_VALUE;
    private static final int MAX = Integer.MAX_VALUE;

    /** A chest in a state that has something of everything; each call makes another one in the same state. */
    interface Scene {
        CountedChest make();
    }

    static void all() {
        of("Terms", "Calls that are refused answer, the first of these that fits: UNKNOWN -1 (there is no such THING, SIGN, place), OUTSIDE -2"
            + " (another number is not as told), STATE -3 (as told), FULL -4, NO -5 (as told)");
        unknownIsFirst();
        outsideIsNext();
        stateIsNext();
        of("Terms", "They change nothing");
        scenesTellApart();
        signsAndThings();
        codes();
        codesThatAreNot();
        theLine();
        growing();
        theChest();
        toldAtLast();
    }

    // ---- which is answered

    private static void unknownIsFirst() {
        CountedChest x = noCodeFullLine();
        due("count: ahead of OUTSIDE", x.count(3, 0), UNKNOWN);
        due("count: ahead of OUTSIDE", x.count(-1, -1), UNKNOWN);
        due("add: the THING ahead of STATE", x.add(3, 0), UNKNOWN);
        due("add: the SIGN ahead of STATE", x.add(0, 2), UNKNOWN);
        due("length: ahead of STATE", x.length(3), UNKNOWN);
        due("word: ahead of STATE", x.word(3, 0), UNKNOWN);
        due("word: ahead of STATE", x.word(-1, -1), UNKNOWN);
        due("write: ahead of STATE and FULL", x.write(3), UNKNOWN);
        due("put: ahead of FULL", x.put(2), UNKNOWN);
        due("send: ahead of STATE and FULL", x.send(3), UNKNOWN);
        due("grown: ahead of STATE", x.grown(3), UNKNOWN);
        due("keep: ahead of STATE", x.keep(8), UNKNOWN);
        due("back: no place", x.back(8), UNKNOWN);
        due("back: nothing is there", x.back(0), UNKNOWN);
        due("differs: no place, ahead of STATE", x.differs(8), UNKNOWN);
        due("differs: nothing is there, ahead of STATE", x.differs(0), UNKNOWN);
        x = chest(prices(1), 1, 1);
        due("node: ahead of STATE", x.node(0, 2), UNKNOWN);
        due("node: i above j, ahead of STATE", x.node(1, 0), UNKNOWN);
        due("node: without a SIGN", new CountedChest().node(0, 0), UNKNOWN);
        x = told(prices(1, 1), "0".repeat(24), "1");
        due("add: the THING ahead of FULL", x.add(2, 0), UNKNOWN);
        due("add: the SIGN ahead of FULL", x.add(0, 2), UNKNOWN);
        x = growingFullLine();
        due("send: ahead of FULL", x.send(3), UNKNOWN);
        due("write: ahead of FULL", x.write(3), UNKNOWN);
    }

    private static void outsideIsNext() {
        CountedChest x = alike(prices(1, 1, 1, 1), 24);
        due("sign: ahead of FULL", x.sign(0), OUTSIDE);
        due("sign: ahead of FULL", x.sign(10), OUTSIDE);
        due("thing: ahead of FULL", x.thing(0), OUTSIDE);
        due("thing: ahead of FULL", x.thing(-1), OUTSIDE);
        x = new CountedChest();
        due("build: the KIND ahead of STATE", x.build(4, 0), OUTSIDE);
        due("build: the KIND ahead of STATE", x.build(-1, 0), OUTSIDE);
        due("build: x of 1 ahead of STATE", x.build(1, 0), OUTSIDE);
        due("build: x of 1 ahead of STATE", x.build(1, 25), OUTSIDE);
        due("build: x of 3 ahead of STATE", x.build(3, 0), OUTSIDE);
        due("holds: the KIND ahead of STATE", x.holds(4, 0), OUTSIDE);
        due("holds: x of 1 ahead of STATE", x.holds(1, 0), OUTSIDE);
        due("holds: x of 1 ahead of STATE", x.holds(1, 25), OUTSIDE);
        due("holds: x of 3 ahead of STATE", x.holds(3, 0), OUTSIDE);
        x = alike(prices(1, 4), 9);
        due("build: x of 1 ahead of STATE", x.build(1, 25), OUTSIDE);
        due("build: x of 3, all else is right", x.build(3, 2), OUTSIDE);
        due("broken: none was broken", x.broken(2), OUTSIDE);
    }

    private static void stateIsNext() {
        due("build: ahead of NO", alike(prices(2, 2), 3).build(1, 1), STATE);
        due("build: one SIGN, ahead of NO", alike(prices(1), 3).build(1, 1), STATE);
        CountedChest x = noCodeFullLine();
        due("write: ahead of FULL", x.write(0), STATE);
        due("send: ahead of FULL", x.send(0), STATE);
        x = told(prices(1, 1), "0".repeat(24), "1");
        x.keep(0);
        x.back(0);
        due("add: ahead of FULL", x.add(0, 0), STATE);
        x = growingFullLine();
        x.own();
        due("send: ahead of FULL", x.send(0), STATE);
        x = new CountedChest();
        due("full: ahead of NO", x.full(), STATE);
        due("canon: ahead of NO", x.canon(), STATE);
        due("read: ahead of NO", x.read(), STATE);
        due("step: ahead of NO", x.step(), STATE);
    }

    private static CountedChest noCodeFullLine() {
        CountedChest x = alike(prices(1, 1), 3);
        for (int k = 0; k < 200; k++) x.put(1);
        return x;
    }

    private static CountedChest growingFullLine() {
        CountedChest x = alike(prices(1, 1), 3);
        x.grow();
        for (int k = 0; k < 200; k++) x.put(0);
        return x;
    }

    // ---- scenes

    private static CountedChest withPast(int[] prices, int... counts) {
        CountedChest x = chest(prices, counts);
        x.build(2, 0);
        x.keep(0);
        x.build(3, 1);
        x.keep(6);
        x.holds(1, 1);
        x.step();
        x.write(1);
        x.write(0);
        x.read();
        x.put(0);
        return x;
    }

    /** THE CODE AT HAND is told, and FREE. */
    private static CountedChest toldScene() {
        CountedChest x = withPast(prices(1, 2), 5, 2, 1);
        return tell(x, "0", "10", "110");
    }

    /** THE CODE AT HAND is told, and not FREE; no CANON has its lengths. */
    private static CountedChest brokenScene() {
        CountedChest x = withPast(prices(1, 1), 5, 2, 1, 7);
        return tell(x, "0", "01", "1", "0");
    }

    private static CountedChest emptyWordScene() {
        CountedChest x = withPast(prices(1, 1), 5, 2, 1);
        return tell(x, "0", "10", "");
    }

    private static CountedChest growingScene() {
        CountedChest x = withPast(prices(1, 1), 5, 2, 1);
        x.grow();
        x.send(2);
        x.send(2);
        x.send(1);
        x.keep(7);
        return x;
    }

    private static CountedChest builtScene() {
        CountedChest x = withPast(prices(1, 1), 1, 2, 3, 4);
        x.build(1, 3);
        return x;
    }

    private static CountedChest goneScene() {
        CountedChest x = growingScene();
        x.thing(bits(4));
        return x;
    }

    /** As many SIGNS and THINGS as there can be, a WORD and THE LINE full. */
    private static CountedChest fullScene() {
        CountedChest x = chest(prices(1, 1, 2, 2));
        for (int t = 0; t < 24; t++) x.thing(bits(1 + t % 5));
        tell(x, "0123".repeat(6), "01", "");
        for (int k = 0; k < 8; k++) x.write(0);
        for (int k = 0; k < 4; k++) x.write(1);
        return x;
    }

    private static CountedChest oneSignScene() {
        CountedChest x = chest(prices(1), 5, 2, 1);
        return line(x, "000");
    }

    private static CountedChest noThingsScene() {
        return line(chest(prices(1, 1)), "011");
    }

    private static CountedChest dearScene() {
        return withPast(prices(1, 4), 5, 2, 1);
    }

    private static CountedChest manyScene() {
        return withPast(prices(1, 3), 1, 2, 3, 4, 5, 6, 7, 8, 9);
    }

    // ---- that nothing is changed

    /** What all calls tell of a chest; those that change something come last. */
    private static final class Probe {
        private final CountedChest x;
        private final List<String> answers = new ArrayList<>();

        Probe(CountedChest x) {
            this.x = x;
        }

        private void answer(String call, long answer) {
            answers.add(call + " " + answer);
        }

        private void answer(String call, String answer) {
            answers.add(call + " " + answer);
        }

        /** The first ones, and some of many: a chest has no more than 512 calls. */
        private void items() {
            StringBuilder b = new StringBuilder();
            for (int k = 0; k <= 200; k += k < 10 ? 1 : 19) b.append(' ').append(x.item(k));
            answer("items", b.toString());
        }

        private void words() {
            if (x.told(3) == 1) answer("words", wordsOf(x));
        }

        List<String> all() {
            int things = x.told(1);
            int size = x.told(2);
            for (int what = 0; what <= 6; what++) answer("told(" + what + ")", x.told(what));
            for (int s = 0; s < 4; s++) answer("price(" + s + ")", x.price(s));
            for (int k = 0; k < things; k++) answer("rank(" + k + ")", x.rank(k));
            answer("broken", brokenOf(x));
            answer("step", stepOf(x));
            items();
            for (int i = 0; i < size; i += size > 40 ? 7 : 1) answer("line(" + i + ")", x.line(i));
            answer("the end of the line", x.line(size - 1));
            words();
            for (int t = 0; t < things; t++) answer("grown(" + t + ")", x.grown(t));
            for (int place = 0; place < 8; place++) answer("differs(" + place + ")", x.differs(place));
            answer("cost", x.cost());
            answer("mean", x.mean());
            answer("room", x.room());
            answer("full", x.full());
            answer("node", x.node(0, things - 1));
            changing(things);
            return answers;
        }

        private void changing(int things) {
            answer("read", x.read());
            items();
            answer("hear", x.hear());
            items();
            answer("holds", x.holds(0, 0));
            answer("broken", brokenOf(x));
            answer("step", x.step());
            answer("the step", stepOf(x));
            answer("its sets", x.told(5));
            answer("add", x.add(1, 0));
            answer("send", x.send(1));
            answer("write", x.write(1));
            answer("keep", x.keep(1));
            answer("wipe", x.wipe());
            for (int place = 0; place < 8; place++) {
                int taken = x.back(place);
                answer("back(" + place + ")", taken);
                if (taken == 1) words();
            }
            for (int t = 0; t < things; t++) answer("count(" + t + ")", x.count(t, bits(1)));
            answer("build", x.build(2, 0));
            answer("thing", x.thing(bits(1)));
            answer("sign", x.sign(1));
        }
    }

    /** One chest is asked for what it refuses, its like is not: all calls must tell the same of both. */
    private static void refused(String what, Scene scene, long want, Call... calls) {
        for (Call call : calls) {
            CountedChest touched = scene.make();
            due(what, call.on(touched), want);
            List<String> got = new Probe(touched).all();
            List<String> left = new Probe(scene.make()).all();
            due(what + ": as many answers", got.size(), left.size());
            int at = 0;
            while (at < got.size() - 1 && at < left.size() - 1 && got.get(at).equals(left.get(at))) at++;
            due(what + ", then", got.get(at), left.get(at));
        }
    }

    /** A probe that could not tell scenes apart would show nothing. */
    private static void scenesTellApart() {
        Scene[] scenes = {RefusalSentences::toldScene, RefusalSentences::brokenScene, RefusalSentences::emptyWordScene,
            RefusalSentences::growingScene, RefusalSentences::builtScene, RefusalSentences::goneScene, RefusalSentences::fullScene,
            RefusalSentences::oneSignScene, RefusalSentences::noThingsScene, RefusalSentences::dearScene, RefusalSentences::manyScene};
        List<List<String>> all = new ArrayList<>();
        for (Scene scene : scenes) {
            List<String> one = new Probe(scene.make()).all();
            due("a scene is like another one", all.indexOf(one), -1);
            all.add(one);
        }
        due("it tells of a new LINE", tells(x -> x.put(0)), 1);
        due("it tells of a new count", tells(x -> x.count(2, bits(9))), 1);
        due("it tells of a kept CODE", tells(x -> x.keep(5)), 1);
        due("it tells of another read()", tells(x -> x.read()), 1);
        due("it tells of another holds()", tells(x -> x.holds(3, 1)), 1);
        due("it tells of another step()", tells(x -> x.step()), 1);
        due("it tells of a CANON one", tells(x -> x.canon()), 1);
        due("it tells of a longer WORD", tells(x -> x.add(2, 1)), 1);
        due("it tells of a built one", tells(x -> x.build(2, 0)), 1);
        due("it tells of nothing where nothing is", tells(x -> x.cost()), 0);
    }

    private static int tells(Call call) {
        CountedChest touched = toldScene();
        call.on(touched);
        return new Probe(touched).all().equals(new Probe(toldScene()).all()) ? 0 : 1;
    }

    private static void signsAndThings() {
        Scene[] scenes = {RefusalSentences::toldScene, RefusalSentences::growingScene, RefusalSentences::goneScene,
            RefusalSentences::fullScene};
        for (Scene scene : scenes) {
            refused("sign: the price", scene, OUTSIDE, x -> x.sign(0), x -> x.sign(10), x -> x.sign(-1), x -> x.sign(MIN), x -> x.sign(MAX));
            for (int bits : PromiseSentences.NO_NUMBERS) {
                refused("thing: no number", scene, OUTSIDE, x -> x.thing(bits));
                refused("count: no number", scene, OUTSIDE, x -> x.count(1, bits));
            }
            for (int bits : PromiseSentences.BELOW) {
                refused("thing: below 1", scene, OUTSIDE, x -> x.thing(bits));
                refused("count: below 1", scene, OUTSIDE, x -> x.count(1, bits));
            }
            for (int bits : PromiseSentences.ABOVE) {
                refused("thing: above 1000000", scene, OUTSIDE, x -> x.thing(bits));
                refused("count: above 1000000", scene, OUTSIDE, x -> x.count(1, bits));
            }
            refused("count: no THING", scene, UNKNOWN, x -> x.count(-1, bits(9)), x -> x.count(x.told(1), bits(9)),
                x -> x.count(MIN, bits(9)), x -> x.count(MAX, bits(9)));
        }
        refused("sign", RefusalSentences::fullScene, FULL, x -> x.sign(1), x -> x.sign(9));
        refused("thing", RefusalSentences::fullScene, FULL, x -> x.thing(bits(1)), x -> x.thing(bits(1000000)));
    }

    private static void codes() {
        Scene[] scenes = {RefusalSentences::toldScene, RefusalSentences::brokenScene, RefusalSentences::growingScene,
            RefusalSentences::builtScene, RefusalSentences::goneScene, RefusalSentences::fullScene};
        for (Scene scene : scenes) {
            refused("build: the KIND", scene, OUTSIDE, x -> x.build(-1, 1), x -> x.build(4, 1), x -> x.build(MIN, 1), x -> x.build(MAX, 1));
            refused("build: x of 1", scene, OUTSIDE, x -> x.build(1, 0), x -> x.build(1, 25), x -> x.build(1, MIN));
            refused("build: x of 3", scene, OUTSIDE, x -> x.build(3, -1), x -> x.build(3, x.told(0)), x -> x.build(3, MAX));
            refused("holds: the KIND", scene, OUTSIDE, x -> x.holds(-1, 1), x -> x.holds(4, 1));
            refused("holds: x of 1", scene, OUTSIDE, x -> x.holds(1, 0), x -> x.holds(1, 25));
            refused("holds: x of 3", scene, OUTSIDE, x -> x.holds(3, -1), x -> x.holds(3, x.told(0)));
            refused("broken", scene, OUTSIDE, x -> x.broken(-1), x -> x.broken(2), x -> x.broken(MIN), x -> x.broken(MAX));
            refused("add: no THING", scene, UNKNOWN, x -> x.add(-1, 0), x -> x.add(x.told(1), 0), x -> x.add(MAX, 0));
            refused("add: no SIGN", scene, UNKNOWN, x -> x.add(0, -1), x -> x.add(0, x.told(0)), x -> x.add(0, MIN));
            refused("length", scene, UNKNOWN, x -> x.length(-1), x -> x.length(x.told(1)));
            refused("word", scene, UNKNOWN, x -> x.word(-1, 0), x -> x.word(x.told(1), 0));
            refused("node", scene, UNKNOWN, x -> x.node(-1, 0), x -> x.node(0, x.told(1)), x -> x.node(1, 0));
        }
        refused("build(1): the prices", RefusalSentences::toldScene, STATE, x -> x.build(1, 1), x -> x.build(1, 24));
        refused("build(0): a price", RefusalSentences::dearScene, STATE, x -> x.build(0, 0));
        refused("build(0): the THINGS", RefusalSentences::manyScene, STATE, x -> x.build(0, 0));
        refused("build(1): none such", RefusalSentences::builtScene, NO, x -> x.build(1, 1));
        refused("build(1): none such", RefusalSentences::growingScene, NO, x -> x.build(1, 1));
        refused("build(1): none such", RefusalSentences::brokenScene, NO, x -> x.build(1, 1));
        refused("one SIGN", RefusalSentences::oneSignScene, STATE, x -> x.build(0, 0), x -> x.build(1, 1), x -> x.build(2, 0),
            x -> x.build(3, 0), x -> x.own(), x -> x.grow(), x -> x.hear(), x -> x.node(0, 1));
        refused("no THINGS", RefusalSentences::noThingsScene, STATE, x -> x.build(0, 0), x -> x.build(1, 1), x -> x.build(2, 0),
            x -> x.build(3, 0), x -> x.own(), x -> x.grow(), x -> x.hear());
    }

    private static void codesThatAreNot() {
        refused("none at hand", RefusalSentences::goneScene, STATE, x -> x.holds(0, 0), x -> x.holds(1, 1), x -> x.cost(), x -> x.mean(),
            x -> x.length(0), x -> x.word(0, 0), x -> x.room(), x -> x.full(), x -> x.canon(), x -> x.write(0), x -> x.read(),
            x -> x.step(), x -> x.keep(0), x -> x.keep(5), x -> x.differs(0), x -> x.add(0, 0), x -> x.send(0), x -> x.grown(0));
        refused("add", RefusalSentences::builtScene, STATE, x -> x.add(0, 0));
        refused("add", RefusalSentences::growingScene, STATE, x -> x.add(0, 0));
        refused("add: 24", RefusalSentences::fullScene, FULL, x -> x.add(0, 0), x -> x.add(0, 3));
        refused("not FREE", RefusalSentences::brokenScene, NO, x -> x.full(), x -> x.read(), x -> x.step());
        refused("an empty WORD", RefusalSentences::emptyWordScene, NO, x -> x.full(), x -> x.read(), x -> x.step(), x -> x.canon());
        refused("not ROWS enough", RefusalSentences::brokenScene, NO, x -> x.canon());
        refused("an empty WORD", RefusalSentences::fullScene, NO, x -> x.canon());
    }

    private static void theLine() {
        Scene[] scenes = {RefusalSentences::toldScene, RefusalSentences::growingScene, RefusalSentences::goneScene,
            RefusalSentences::fullScene};
        for (Scene scene : scenes) {
            refused("write", scene, UNKNOWN, x -> x.write(-1), x -> x.write(x.told(1)), x -> x.write(MAX));
            refused("put", scene, UNKNOWN, x -> x.put(-1), x -> x.put(x.told(0)), x -> x.put(MIN));
        }
        refused("write", RefusalSentences::fullScene, FULL, x -> x.write(0), x -> x.write(1));
        refused("put", RefusalSentences::fullScene, FULL, x -> x.put(0), x -> x.put(3));
        Scene oneLeft = () -> {
            CountedChest x = fullScene();
            x.wipe();
            for (int k = 0; k < 8; k++) x.write(0);
            for (int k = 0; k < 7; k++) x.put(2);
            return x;
        };
        refused("write: room for one of two SIGNS", oneLeft, FULL, x -> x.write(1), x -> x.write(0));
    }

    private static void growing() {
        Scene[] scenes = {RefusalSentences::toldScene, RefusalSentences::growingScene, RefusalSentences::goneScene};
        for (Scene scene : scenes) {
            refused("send", scene, UNKNOWN, x -> x.send(-1), x -> x.send(x.told(1)), x -> x.send(MAX));
            refused("grown", scene, UNKNOWN, x -> x.grown(-1), x -> x.grown(x.told(1)), x -> x.grown(MIN));
        }
        refused("send", RefusalSentences::toldScene, STATE, x -> x.send(0), x -> x.grown(0));
        refused("send", RefusalSentences::builtScene, STATE, x -> x.send(0), x -> x.grown(0));
        refused("send", RefusalSentences::growingFullLine, FULL, x -> x.send(0), x -> x.send(2));
        Scene oneLeft = () -> {
            CountedChest x = growingScene();
            x.wipe();
            for (int k = 0; k < 199; k++) x.put(k & 1);
            return x;
        };
        refused("send: room for one of two SIGNS", oneLeft, FULL, x -> x.send(0), x -> x.send(1));
        refused("a price", RefusalSentences::dearScene, STATE, x -> x.grow(), x -> x.hear());
        refused("the THINGS", RefusalSentences::manyScene, STATE, x -> x.grow(), x -> x.hear());
    }

    private static void theChest() {
        Scene[] scenes = {RefusalSentences::toldScene, RefusalSentences::growingScene, RefusalSentences::goneScene};
        for (Scene scene : scenes) {
            refused("no place", scene, UNKNOWN, x -> x.keep(-1), x -> x.keep(8), x -> x.keep(MIN), x -> x.keep(MAX), x -> x.back(-1),
                x -> x.back(8), x -> x.back(MIN), x -> x.back(MAX), x -> x.differs(-1), x -> x.differs(8), x -> x.differs(MIN));
            refused("nothing is there", scene, UNKNOWN, x -> x.back(1), x -> x.back(5), x -> x.differs(1), x -> x.differs(5));
        }
        Scene another = () -> tell(goneScene(), "0", "10", "110", "111");
        refused("another number of THINGS", RefusalSentences::goneScene, STATE, x -> x.back(0), x -> x.back(6), x -> x.back(7));
        refused("another number of THINGS", another, STATE, x -> x.back(0), x -> x.back(6), x -> x.back(7));
    }

    private static void toldAtLast() {
        Scene[] scenes = {RefusalSentences::toldScene, RefusalSentences::growingScene, RefusalSentences::goneScene};
        for (Scene scene : scenes) {
            refused("told", scene, OUTSIDE, x -> x.told(-1), x -> x.told(7), x -> x.told(MIN), x -> x.told(MAX));
            refused("price", scene, UNKNOWN, x -> x.price(-1), x -> x.price(x.told(0)), x -> x.price(MAX));
            refused("rank", scene, UNKNOWN, x -> x.rank(-1), x -> x.rank(x.told(1)), x -> x.rank(MIN));
        }
    }
}
