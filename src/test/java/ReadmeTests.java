/** The example of README.md, line by line, with the answers that it tells. */
final class ReadmeTests {
    private ReadmeTests() {
    }

    static void runAll() {
        Check.run("README: the example", ReadmeTests::example);
    }

    private static void example() {
        SqueezedVolume volume = new SqueezedVolume();
        int first = volume.enter(5, 10);
        Check.due("the least free handle", first, 0);
        volume.put(first, 0, 77);
        Check.due("more are empty", volume.close(first, 4), 6);
        int second = volume.enter(6, 0);
        Check.due("half of 44", volume.entry(1, 2), 22);
        volume.put(second, 2, 88);
        volume.close(second, 3);
        Check.due("4 empty blocks before file 6", volume.delete(5), 4);

        volume.cutAfter(3);
        Check.due("a fourth write is to be made", volume.squeeze(), SqueezedVolume.CUT);
        Check.due("power is off", volume.isOn() ? 1 : 0, 0);
        Check.due("permanent files", volume.mount(), 1);
        Check.due("file 6 begins at", volume.entry(0, 1), 0);
        Check.due("block 2 of it", volume.read(6, 2), 88);
    }
}
