/** A WordChest whose calls are counted: behind the 512th one nothing is promised, so no test asks for more. */
final class CountedChest {
    static final int MOST_CALLS = 512;

    private final WordChest chest = new WordChest();
    private int calls = 0;

    int calls() {
        return calls;
    }

    private WordChest counted() {
        calls++;
        if (calls > MOST_CALLS) {
            throw new IllegalStateException("the test uses an object for more than " + MOST_CALLS + " calls");
        }
        return chest;
    }

    int sign(int price) {
        return counted().sign(price);
    }

    int thing(int count) {
        return counted().thing(count);
    }

    int count(int thing, int count) {
        return counted().count(thing, count);
    }

    long build(int kind, int x) {
        return counted().build(kind, x);
    }

    int own() {
        return counted().own();
    }

    int add(int thing, int sign) {
        return counted().add(thing, sign);
    }

    int holds(int kind, int x) {
        return counted().holds(kind, x);
    }

    int broken(int which) {
        return counted().broken(which);
    }

    long cost() {
        return counted().cost();
    }

    long mean() {
        return counted().mean();
    }

    int length(int thing) {
        return counted().length(thing);
    }

    int word(int thing, int k) {
        return counted().word(thing, k);
    }

    long room() {
        return counted().room();
    }

    int full() {
        return counted().full();
    }

    int canon() {
        return counted().canon();
    }

    long node(int i, int j) {
        return counted().node(i, j);
    }

    int write(int thing) {
        return counted().write(thing);
    }

    int put(int sign) {
        return counted().put(sign);
    }

    int wipe() {
        return counted().wipe();
    }

    int line(int i) {
        return counted().line(i);
    }

    int read() {
        return counted().read();
    }

    int item(int k) {
        return counted().item(k);
    }

    int grow() {
        return counted().grow();
    }

    int send(int thing) {
        return counted().send(thing);
    }

    int hear() {
        return counted().hear();
    }

    int grown(int thing) {
        return counted().grown(thing);
    }

    int step() {
        return counted().step();
    }

    int stepSign(int k) {
        return counted().stepSign(k);
    }

    int keep(int place) {
        return counted().keep(place);
    }

    int back(int place) {
        return counted().back(place);
    }

    int differs(int place) {
        return counted().differs(place);
    }

    int told(int what) {
        return counted().told(what);
    }

    int price(int sign) {
        return counted().price(sign);
    }

    int rank(int k) {
        return counted().rank(k);
    }
}
