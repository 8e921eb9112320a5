/** An object under test that counts its calls, as nothing is promised of one behind its 512th. */
final class Watched {
    private static final int PROMISED_CALLS = 512;

    private final OneLampAllOut object = new OneLampAllOut();
    private int calls = 0;

    private OneLampAllOut called() {
        calls++;
        if (calls == PROMISED_CALLS + 1) {
            Check.due("calls of one object in a test", calls, PROMISED_CALLS);
        }
        return object;
    }

    int feed(int letter) {
        return called().feed(letter);
    }

    int string() {
        return called().string();
    }

    int lamp(int lamp, int what) {
        return called().lamp(lamp, what);
    }

    int set(int what, int v) {
        return called().set(what, v);
    }

    int flow() {
        return called().flow();
    }

    int hour() {
        return called().hour();
    }

    int swap(int lamp) {
        return called().swap(lamp);
    }

    int meter(int i, int j) {
        return called().meter(i, j);
    }

    int finder(int i) {
        return called().finder(i);
    }

    int touch(int lamp) {
        return called().touch(lamp);
    }

    int find(int i, int j, int what) {
        return called().find(i, j, what);
    }

    int look(int i, int j, int what) {
        return called().look(i, j, what);
    }

    int order(int k) {
        return called().order(k);
    }

    int orderSum() {
        return called().orderSum();
    }

    int told(int place, int answer) {
        return called().told(place, answer);
    }

    int openTo() {
        return called().openTo();
    }

    int judge() {
        return called().judge();
    }

    int lasts() {
        return called().lasts();
    }

    int next(int what) {
        return called().next(what);
    }

    int bridged(int n) {
        return called().bridged(n);
    }

    int stop() {
        return called().stop();
    }

    int light(int n) {
        return called().light(n);
    }

    int keeps(int n) {
        return called().keeps(n);
    }

    int allAnew() {
        return called().allAnew();
    }

    int joined() {
        return called().joined();
    }

    long two(int part) {
        return called().two(part);
    }

    int seeds(int n, int z) {
        return called().seeds(n, z);
    }

    int image() {
        return called().image();
    }

    int restore() {
        return called().restore();
    }

    int count(int what) {
        return called().count(what);
    }

    int calls() {
        return calls;
    }
}
