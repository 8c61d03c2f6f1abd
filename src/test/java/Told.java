/** What an object tells of itself, as one number: the same for objects that are alike. */
final class Told {
    private Told() { }

    static long of(TideWheels x) {
        long sum = 17;
        for (int what = 0; what <= 5; what++) {
            sum = sum * 31 + x.count(what);
        }
        for (int part = 0; part < 6; part++) {
            for (int what : new int[] {0, 1, 2, 3, 4, 10, 11, 12, 20, 21, 22}) {
                sum = sum * 31 + x.of(part, what);
            }
            sum = sum * 31 + x.speed(part, 0);
            sum = sum * 31 + x.speed(part, 1);
        }
        for (int sheet = 0; sheet < 4; sheet++) {
            for (int i = 0; i < 40; i++) {
                sum = sum * 31 + x.item(sheet, i);
            }
        }
        return sum * 31 + x.height();
    }
}
